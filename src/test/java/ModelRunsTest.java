import java.util.Arrays;
import java.util.Random;
import java.util.function.Supplier;

/** Random runs of calls, from fixed seeds, on a WidowWatch and on the BookModel: all answers must be the same. */
public final class ModelRunsTest {
    private static final int RUNS = 250;
    private static final int CALLS = 200;
    private static int wrong = 0;

    private final Random random;
    private final int seed;
    private final WidowWatch watch = new WidowWatch();
    private final BookModel model = new BookModel();
    private final StringBuilder log = new StringBuilder();

    private ModelRunsTest(int seed) {
        this.seed = seed;
        this.random = new Random(seed);
    }

    public static void main(String[] args) {
        for (int seed = 1; seed <= RUNS && wrong == 0; seed++) {
            new ModelRunsTest(seed).run();
        }
        System.out.println(wrong == 0 ? "all random runs answer as the model" : "random runs differ from the model");
        if (wrong != 0) {
            System.exit(1);
        }
    }

    private void run() {
        int calls = 0;
        if (seed % 4 != 0) {
            calls += feed(text());
        }
        while (calls < CALLS && wrong == 0) {
            calls += random.nextInt(15) == 0 ? feed(random.nextBoolean() ? text() : mutated(text())) : step();
            if (random.nextInt(4) == 0) {
                compare("checksum()", watch::checksum, model::checksum);
                calls++;
            }
            if (random.nextInt(10) == 0) {
                compareTried();
            }
        }
    }

    // The model's two ways to the best plan must agree with each other too.
    private void compareTried() {
        String tried = model.tried(600);
        if (tried != null) {
            BookModel.Made made = model.told(tried);
            compare("settings by trying", () -> settings(), () -> Arrays.toString(made.settings));
            compare("pages by trying", () -> watch.plan(true, 1), () -> made.pages.size());
            compare("costs by trying", () -> watch.plan(true, 0), () -> model.costs(made));
            for (int page = 0; page < made.pages.size(); page++) {
                int at = page;
                compare("first line by trying", () -> watch.page(true, at, 2), () -> made.pages.get(at).get(0)[1]);
            }
        }
    }

    private String settings() {
        int[] settings = new int[watch.state(4)];
        for (int p = 0; p < settings.length; p++) {
            settings[p] = watch.paragraph(p, 7);
        }
        return Arrays.toString(settings);
    }

    private int step() {
        int p = index(model.data.paras.size());
        int what = random.nextInt(15) - 1;
        boolean isBest = random.nextBoolean();
        int k = index(random.nextInt(4) == 0 ? 30 : 8);
        int page = index(model.made(isBest).pages.size());
        int setting = random.nextInt(6) - 2;
        int length = random.nextInt(6) == 0 ? random.nextInt(65) - 1 : random.nextInt(12);
        int cost = random.nextInt(10) == 0 ? 998 + random.nextInt(3) : random.nextInt(34) - 1;
        int which = random.nextInt(8) - 1;
        int words = random.nextInt(5) == 0 ? random.nextInt(34) - 1 : random.nextInt(9);
        switch (random.nextInt(19)) {
            case 0: compare("state " + what, () -> watch.state(what), () -> model.state(what)); break;
            case 1: compare("paragraph " + p + " " + what,
                    () -> watch.paragraph(p, what), () -> model.paragraph(p, what)); break;
            case 2: compare("word " + p + " " + k, () -> watch.word(p, k), () -> model.word(p, k)); break;
            case 3: compare("lineLength " + p + " " + setting + " " + k,
                    () -> watch.lineLength(p, setting, k), () -> model.lineLength(p, setting, k)); break;
            case 4: compare("plan " + isBest + " " + what,
                    () -> watch.plan(isBest, what), () -> model.plan(isBest, what)); break;
            case 5: compare("page " + isBest + " " + page + " " + what,
                    () -> watch.page(isBest, page, what), () -> model.page(isBest, page, what)); break;
            case 6: compare("pageOf " + isBest + " " + p + " " + k,
                    () -> watch.pageOf(isBest, p, k), () -> model.pageOf(isBest, p, k)); break;
            case 7: return allHelp();
            case 8: compare("saved", () -> watch.saved(), () -> model.saved()); break;
            case 9: compare("fullness", () -> watch.fullness(), () -> model.fullness()); break;
            case 10: compare("fix " + p + " " + setting, () -> watch.fix(p, setting), () -> model.fix(p, setting));
                break;
            case 11: compare("begin " + p + " " + isBest, () -> watch.begin(p, isBest), () -> model.begin(p, isBest));
                break;
            case 12:
            case 13: compare("insert " + p + " " + words + " " + length,
                    () -> watch.insert(p, words, length), () -> model.insert(p, words, length)); break;
            case 14: compare("remove " + p, () -> watch.remove(p), () -> model.remove(p)); break;
            case 15: compare("retouch " + p + " " + k + " " + length,
                    () -> watch.retouch(p, k, length), () -> model.retouch(p, k, length)); break;
            case 16: compare("setCost " + which + " " + cost,
                    () -> watch.setCost(which, cost), () -> model.setCost(which, cost)); break;
            case 17: compare("undo", () -> watch.undo(), () -> model.undo()); break;
            default: compare("errorOffset", () -> watch.errorOffset(), () -> model.errorAt); break;
        }
        return 1;
    }

    private int allHelp() {
        int pages = model.made(false).pages.size();
        for (int page = -1; page <= pages; page++) {
            int at = page;
            compare("help " + page, () -> watch.help(at), () -> model.help(at));
        }
        return pages + 2;
    }

    private int index(int count) {
        if (random.nextInt(40) == 0) {
            return random.nextBoolean() ? Integer.MAX_VALUE : Integer.MIN_VALUE;
        }
        if (random.nextInt(20) == 0) {
            return -1;
        }
        return random.nextInt(Math.max(1, count + random.nextInt(8) / 6));
    }

    // Setup texts.

    private String text() {
        int width = 10 + random.nextInt(random.nextBoolean() ? 8 : 51);
        int height = 2 + random.nextInt(random.nextInt(4) == 0 ? 39 : 5);
        int slack = random.nextInt(10);
        StringBuilder text = new StringBuilder("book" + space() + width + " " + space() + height + " " + slack
                + space() + ";");
        int paras = random.nextInt(3) == 0 ? random.nextInt(18) : random.nextInt(7);
        for (int i = 0; i < paras; i++) {
            if (random.nextInt(paras) == 0 && text.indexOf("costs") < 0) {
                text.append("costs").append(numbers(6, random.nextBoolean() ? 4 : 40)).append(';');
            }
            if (random.nextInt(paras) == 0 && text.indexOf("limit") < 0) {
                text.append(space()).append("limit").append(space()).append(random.nextInt(10)).append(';');
            }
            text.append(space()).append(random.nextInt(4) == 0 ? "heading" : "para");
            text.append(random.nextInt(6) == 0 ? " page" : "");
            int words = 1 + random.nextInt(random.nextInt(6) == 0 ? 31 : 9);
            text.append(numbers(words, Math.min(width - slack, random.nextInt(3) == 0 ? 60 : 9)));
            text.append(space()).append(';');
        }
        return text.append(space()).toString();
    }

    private String numbers(int count, int most) {
        StringBuilder text = new StringBuilder();
        for (int i = 0; i < count; i++) {
            text.append(i == 0 ? space() : " " + space()).append(1 + random.nextInt(most));
        }
        return text.toString();
    }

    private String space() {
        return random.nextInt(6) == 0 ? " ".repeat(random.nextInt(3)) : "";
    }

    private String mutated(String text) {
        StringBuilder other = new StringBuilder(text);
        for (int i = random.nextInt(3); i > 0; i--) {
            int at = random.nextInt(other.length());
            String[] odd = {";", " ", "0", "9", "1234567890123", "costs 1 2 3 4 5 6;", "limit 3;", "para 1;", "x",
                "page", "heading 2;", "\t", "\0", "\n", "\u00e9", "P", "-", "000000000000", "book", "limit", ";;", "5;limit 1"};
            switch (random.nextInt(3)) {
                case 0: other.deleteCharAt(at); break;
                case 1: other.setLength(at + 1); break;
                default: other.insert(at, odd[random.nextInt(odd.length)]); break;
            }
        }
        return other.toString();
    }

    private int feed(String text) {
        String fitting = text.length() > 700 ? text.substring(0, 700) : text;
        int calls = 0;
        for (int at = 0; at < fitting.length() || random.nextInt(5) == 0; at += 20) {
            int[] five = new int[5];
            for (int i = 0; i < 20; i++) {
                five[i / 4] = five[i / 4] << 8 | (at + i < fitting.length() ? fitting.charAt(at + i) : ' ');
            }
            compare("append", () -> watch.append(five[0], five[1], five[2], five[3], five[4]), () -> model.append(five));
            calls++;
        }
        int odd = random.nextInt(8);
        int length = odd == 0 ? model.buffer.size() + 1 : odd == 1 ? -1 : Math.min(fitting.length(), model.buffer.size());
        compare("load \"" + fitting + "\" " + length, () -> watch.load(length), () -> model.load(length));
        compare("errorOffset", () -> watch.errorOffset(), () -> model.errorAt);
        return calls + 2;
    }

    private void compare(String call, Supplier<Object> asked, Supplier<Object> due) {
        String got = answer(asked);
        String want = answer(due);
        log.append(call).append(" -> ").append(want).append('\n');
        if (!got.equals(want) && wrong == 0) {
            wrong++;
            System.out.println("run " + seed + ":\n" + log + "the last call answered " + got);
        }
    }

    // The exact class is compared: what the machine itself throws has other ones.
    private static String answer(Supplier<Object> asked) {
        try {
            return String.valueOf(asked.get());
        } catch (RuntimeException thrown) {
            return "throws." + thrown.getClass().getName();
        }
    }
}
