import java.util.ArrayDeque;
import java.util.ArrayList;
import java.util.Deque;
import java.util.HashMap;
import java.util.HashSet;
import java.util.List;
import java.util.Map;
import java.util.NoSuchElementException;
import java.util.Set;
import java.util.regex.Matcher;
import java.util.regex.Pattern;

/**
 * The document said a second time, as plainly as can be and without regard to speed; the runs against it compare.
 * Plans are whole strings of decisions, weighed by the definition of the costs.
 */
final class BookModel {
    static final class Para {
        boolean heading;
        boolean page;
        int fixed = -1;
        List<Integer> words = new ArrayList<>();

        Para copy() {
            Para other = new Para();
            other.heading = heading;
            other.page = page;
            other.fixed = fixed;
            other.words = new ArrayList<>(words);
            return other;
        }
    }

    static final class Data {
        int width = 40;
        int height = 10;
        int slack = 4;
        int limit = 1;
        int[] costs = {1, 1, 2, 20, 10, 30};
        List<Para> paras = new ArrayList<>();

        Data copy() {
            Data other = new Data();
            other.width = width;
            other.height = height;
            other.slack = slack;
            other.limit = limit;
            other.costs = costs.clone();
            for (Para para : paras) {
                other.paras.add(para.copy());
            }
            return other;
        }
    }

    /** Settings, and the pages as the lists of their lines, each line {paragraph, number}. */
    static final class Made {
        int[] settings;
        List<List<int[]>> pages = new ArrayList<>();
    }

    private static final class Fault extends RuntimeException {
        private static final long serialVersionUID = 1;
        final int code;
        final int offset;

        Fault(int code, int offset) {
            this.code = code;
            this.offset = offset;
        }
    }

    Data data = new Data();
    final Deque<Data> changes = new ArrayDeque<>();
    final List<Integer> buffer = new ArrayList<>();
    int errorAt = -1;
    private Data bestOf = null;
    private Made bestMade = null;

    // The buffer and the setup text.

    int append(int... words) {
        if (buffer.size() + 20 > 700) {
            return -1;
        }
        for (int word : words) {
            buffer.add(word >>> 24);
            buffer.add(word >>> 16 & 255);
            buffer.add(word >>> 8 & 255);
            buffer.add(word & 255);
        }
        return buffer.size();
    }

    int load(int length) {
        if (length < 0 || length > buffer.size()) {
            throw new IllegalArgumentException();
        }
        StringBuilder text = new StringBuilder();
        for (int i = 0; i < length; i++) {
            text.append((char) (int) buffer.get(i));
        }
        buffer.clear();
        try {
            Data loaded = parse(text.toString());
            errorAt = -1;
            change();
            data = loaded;
            return data.paras.size();
        } catch (Fault fault) {
            errorAt = fault.offset;
            return fault.code;
        }
    }

    private String text;
    private List<String> tokens;
    private List<Integer> starts;
    private int next;

    private Data parse(String all) {
        text = all;
        tokens = new ArrayList<>();
        starts = new ArrayList<>();
        next = 0;
        Matcher matcher = Pattern.compile("[0-9]+|[a-z]+|[^ ]", Pattern.DOTALL).matcher(all);
        while (matcher.find()) {
            tokens.add(matcher.group());
            starts.add(matcher.start());
        }
        Data made = new Data();
        expect("book");
        made.width = number(10, 60);
        made.height = number(2, 40);
        made.slack = number(0, 9);
        expect(";");
        Set<String> seen = new HashSet<>();
        while (next < tokens.size()) {
            String token = tokens.get(next);
            int start = starts.get(next++);
            if (token.equals("costs") || token.equals("limit")) {
                if (!seen.add(token)) {
                    throw new Fault(-2, start);
                }
                if (token.equals("limit")) {
                    made.limit = number(0, 9);
                } else {
                    for (int i = 0; i < 6; i++) {
                        made.costs[i] = number(0, 999);
                    }
                }
            } else if (token.equals("para") || token.equals("heading")) {
                if (made.paras.size() == 16) {
                    throw new Fault(-4, start);
                }
                Para para = new Para();
                made.paras.add(para);
                para.heading = token.equals("heading");
                if (peek().equals("page")) {
                    para.page = true;
                    next++;
                }
                do {
                    int first = offset();
                    int word = number(1, made.width - made.slack);
                    if (para.words.size() == 30) {
                        throw new Fault(-4, first);
                    }
                    para.words.add(word);
                } while (peek().matches("[0-9]+"));
            } else {
                throw new Fault(-2, start);
            }
            expect(";");
        }
        return made;
    }

    private String peek() {
        return next < tokens.size() ? tokens.get(next) : "";
    }

    private int offset() {
        return next < tokens.size() ? starts.get(next) : text.length();
    }

    private void expect(String token) {
        if (!peek().equals(token)) {
            throw new Fault(-2, offset());
        }
        next++;
    }

    private int number(int least, int most) {
        if (!peek().matches("[0-9]+")) {
            throw new Fault(-2, offset());
        }
        java.math.BigInteger value = new java.math.BigInteger(peek());
        if (value.compareTo(java.math.BigInteger.valueOf(least)) < 0
                || value.compareTo(java.math.BigInteger.valueOf(most)) > 0) {
            throw new Fault(-3, offset());
        }
        next++;
        return value.intValue();
    }

    // Lines and plans.

    List<Integer> lines(Para para, int setting) {
        int holds = data.width + (setting == 1 ? data.slack : setting == 2 ? -data.slack : 0);
        List<List<Integer>> made = new ArrayList<>();
        for (int word : para.words) {
            List<Integer> present = made.isEmpty() ? null : made.get(made.size() - 1);
            if (present == null || taken(present) + 1 + word > holds) {
                made.add(new ArrayList<>(List.of(word)));
            } else {
                present.add(word);
            }
        }
        List<Integer> lengths = new ArrayList<>();
        for (List<Integer> line : made) {
            lengths.add(taken(line));
        }
        return lengths;
    }

    private static int taken(List<Integer> words) {
        int sum = words.size() - 1;
        for (int word : words) {
            sum += word;
        }
        return sum;
    }

    boolean startsPage(int[] line) {
        return line[1] == 0 && data.paras.get(line[0]).page;
    }

    int count(Made made, int p) {
        return lines(data.paras.get(p), made.settings[p]).size();
    }

    boolean isWidow(Made made, int page) {
        int[] first = made.pages.get(page).get(0);
        int count = count(made, first[0]);
        return page > 0 && count >= 2 && first[1] == count - 1;
    }

    boolean isOrphan(Made made, int page) {
        int[] first = made.pages.get(page).get(0);
        return page > 0 && count(made, first[0]) >= 2 && first[1] == 1;
    }

    boolean isBehindHeading(Made made, int page) {
        int[] first = made.pages.get(page).get(0);
        return page > 0 && first[1] == 0 && data.paras.get(first[0] - 1).heading;
    }

    int begins(Made made, int page) {
        return (isWidow(made, page) ? data.costs[3] : 0) + (isOrphan(made, page) ? data.costs[4] : 0)
                + (isBehindHeading(made, page) ? data.costs[5] : 0);
    }

    int ends(Made made, int page) {
        if (page == made.pages.size() - 1 || startsPage(made.pages.get(page + 1).get(0))) {
            return 0;
        }
        return (data.height - made.pages.get(page).size()) * data.costs[2];
    }

    int costs(Made made) {
        int sum = 0;
        for (int p = 0; p < data.paras.size(); p++) {
            int setting = made.settings[p];
            sum += setting == 0 ? 0 : count(made, p) * data.costs[setting - 1];
        }
        for (int page = 0; page < made.pages.size(); page++) {
            sum += begins(made, page) + ends(made, page);
        }
        return sum;
    }

    Made plain(int odd, int setting) {
        Made made = new Made();
        made.settings = new int[data.paras.size()];
        for (int p = 0; p < data.paras.size(); p++) {
            made.settings[p] = p == odd ? setting : 0;
            for (int line = 0; line < count(made, p); line++) {
                int[] at = {p, line};
                if (made.pages.isEmpty() || startsPage(at)
                        || made.pages.get(made.pages.size() - 1).size() == data.height) {
                    made.pages.add(new ArrayList<>());
                }
                made.pages.get(made.pages.size() - 1).add(at);
            }
        }
        return made;
    }

    /** The plan that a string of decisions tells: a digit for a setting, n or y for a line (y: the page ends). */
    Made told(String decisions) {
        Made made = new Made();
        made.settings = new int[data.paras.size()];
        int at = 0;
        for (int p = 0; p < data.paras.size(); p++) {
            made.settings[p] = decisions.charAt(at++) - '0';
            for (int line = 0; line < count(made, p); line++) {
                if (decisions.charAt(at++) == 'y' || made.pages.isEmpty()) {
                    made.pages.add(new ArrayList<>());
                }
                made.pages.get(made.pages.size() - 1).add(new int[] {p, line});
            }
        }
        return made;
    }

    Made best() {
        if (bestOf != data) {
            bestOf = data;
            rests.clear();
            bestMade = told(rest(0, -1, 0, 0).decisions);
        }
        return bestMade;
    }

    private record Rest(long cost, String decisions) {
    }

    private final Map<List<Integer>, Rest> rests = new HashMap<>();

    /** Of all rests from here the cheapest, of these the first; setting -1 while it has yet to be decided. */
    private Rest rest(int p, int setting, int line, int onPage) {
        if (p == data.paras.size()) {
            return new Rest(0, "");
        }
        List<Integer> key = List.of(p, setting, line, onPage);
        if (!rests.containsKey(key)) {
            rests.put(key, setting < 0 ? restBySetting(p, onPage) : restByLine(p, setting, line, onPage));
        }
        return rests.get(key);
    }

    private Rest restBySetting(int p, int onPage) {
        Rest least = null;
        for (int setting = 0; setting < 3; setting++) {
            Para para = data.paras.get(p);
            if (para.fixed < 0 || para.fixed == setting) {
                Rest behind = rest(p, setting, 0, onPage);
                long own = setting == 0 ? 0 : (long) lines(para, setting).size() * data.costs[setting - 1];
                least = lesser(least, new Rest(own + behind.cost, setting + behind.decisions));
            }
        }
        return least;
    }

    private Rest restByLine(int p, int setting, int line, int onPage) {
        int count = lines(data.paras.get(p), setting).size();
        boolean isLast = line + 1 == count;
        int nextP = isLast ? p + 1 : p;
        int nextSetting = isLast ? -1 : setting;
        int nextLine = isLast ? 0 : line + 1;
        boolean start = startsPage(new int[] {p, line});
        boolean must = onPage > 0 && (onPage == data.height || start);
        Rest least = null;
        if (onPage > 0 && (must || data.height - onPage <= data.limit)) {
            long cost = start ? 0 : (long) (data.height - onPage) * data.costs[2];
            cost += count >= 2 && line == count - 1 ? data.costs[3] : 0;
            cost += count >= 2 && line == 1 ? data.costs[4] : 0;
            cost += line == 0 && p > 0 && data.paras.get(p - 1).heading ? data.costs[5] : 0;
            Rest behind = rest(nextP, nextSetting, nextLine, 1);
            least = new Rest(cost + behind.cost, "y" + behind.decisions);
        }
        if (!must) {
            Rest behind = rest(nextP, nextSetting, nextLine, onPage + 1);
            least = lesser(least, new Rest(behind.cost, "n" + behind.decisions));
        }
        return least;
    }

    // "n" is ahead of "y" and the smaller setting ahead of the greater, as the document has it.
    private static Rest lesser(Rest one, Rest other) {
        if (one == null || other.cost < one.cost) {
            return other;
        }
        return other.cost == one.cost && other.decisions.compareTo(one.decisions) < 0 ? other : one;
    }

    private String firstCheapest;
    private int leastCost;
    private int plansLeft;

    /** The best plan by trying every plan in the order of the decisions; null if there are too many. */
    String tried(int most) {
        firstCheapest = null;
        plansLeft = most;
        tryFrom("", 0, 0, -1, 0);
        return plansLeft < 0 ? null : firstCheapest;
    }

    private void tryFrom(String sofar, int p, int line, int setting, int onPage) {
        if (plansLeft < 0) {
            return;
        }
        if (p == data.paras.size()) {
            plansLeft--;
            int cost = costs(told(sofar));
            if (firstCheapest == null || cost < leastCost) {
                firstCheapest = sofar;
                leastCost = cost;
            }
            return;
        }
        Para para = data.paras.get(p);
        if (setting < 0) {
            for (int s = 0; s < 3; s++) {
                if (para.fixed < 0 || para.fixed == s) {
                    tryFrom(sofar + s, p, 0, s, onPage);
                }
            }
            return;
        }
        boolean isLast = line + 1 == lines(para, setting).size();
        boolean must = onPage > 0 && (onPage == data.height || startsPage(new int[] {p, line}));
        if (!must) {
            tryFrom(sofar + "n", isLast ? p + 1 : p, isLast ? 0 : line + 1, isLast ? -1 : setting, onPage + 1);
        }
        if (onPage > 0 && (must || data.height - onPage <= data.limit)) {
            tryFrom(sofar + "y", isLast ? p + 1 : p, isLast ? 0 : line + 1, isLast ? -1 : setting, 1);
        }
    }

    // What is asked.

    private Para para(int p) {
        if (p < 0 || p >= data.paras.size()) {
            throw new IndexOutOfBoundsException();
        }
        return data.paras.get(p);
    }

    private static void range(int value, int least, int most) {
        if (value < least || value > most) {
            throw new IllegalArgumentException();
        }
    }

    int state(int what) {
        range(what, 0, 12);
        int words = 0;
        int fixed = 0;
        for (Para para : data.paras) {
            words += para.words.size();
            fixed += para.fixed < 0 ? 0 : 1;
        }
        int[] told = {data.width, data.height, data.slack, data.limit, data.paras.size(), words, fixed};
        return what < 7 ? told[what] : data.costs[what - 7];
    }

    int paragraph(int p, int what) {
        Para para = para(p);
        range(what, 0, 7);
        if (what >= 1 && what <= 3) {
            return lines(para, what - 1).size();
        }
        int[] told = {para.words.size(), 0, 0, 0, para.heading ? 1 : 0, para.page ? 1 : 0, para.fixed};
        return what == 7 ? best().settings[p] : told[what];
    }

    int word(int p, int k) {
        List<Integer> words = para(p).words;
        if (k < 0 || k >= words.size()) {
            throw new NoSuchElementException();
        }
        return words.get(k);
    }

    int lineLength(int p, int setting, int line) {
        Para para = para(p);
        range(setting, 0, 2);
        List<Integer> lengths = lines(para, setting);
        if (line < 0 || line >= lengths.size()) {
            throw new NoSuchElementException();
        }
        return lengths.get(line);
    }

    Made made(boolean isBest) {
        return isBest ? best() : plain(-1, 0);
    }

    int plan(boolean isBest, int what) {
        range(what, 0, 6);
        Made made = made(isBest);
        int[] told = {costs(made), made.pages.size(), 0, 0, 0, 0, 0};
        for (int page = 0; page < made.pages.size(); page++) {
            int size = made.pages.get(page).size();
            told[2] += isWidow(made, page) ? 1 : 0;
            told[3] += isOrphan(made, page) ? 1 : 0;
            told[4] += isBehindHeading(made, page) ? 1 : 0;
            told[5] += page == made.pages.size() - 1 ? 0 : data.height - size;
            told[6] += size;
        }
        return told[what];
    }

    int page(boolean isBest, int page, int what) {
        Made made = made(isBest);
        if (page < 0 || page >= made.pages.size()) {
            throw new IndexOutOfBoundsException();
        }
        range(what, 0, 4);
        List<int[]> lines = made.pages.get(page);
        int[] told = {lines.size(), lines.get(0)[0], lines.get(0)[1], begins(made, page), ends(made, page)};
        return told[what];
    }

    int pageOf(boolean isBest, int p, int line) {
        para(p);
        Made made = made(isBest);
        for (int page = 0; page < made.pages.size(); page++) {
            for (int[] at : made.pages.get(page)) {
                if (at[0] == p && at[1] == line) {
                    return page;
                }
            }
        }
        throw new NoSuchElementException();
    }

    int help(int page) {
        Made made = plain(-1, 0);
        if (page < 0 || page >= made.pages.size()) {
            throw new IndexOutOfBoundsException();
        }
        if (!isWidow(made, page)) {
            return -2;
        }
        int widow = made.pages.get(page).get(0)[0];
        int top = 0;
        for (int p = 0; p <= widow; p++) {
            top = data.paras.get(p).page ? p : top;
        }
        for (int p = widow; p >= top; p--) {
            for (int setting = 1; setting <= 2; setting++) {
                Made other = plain(p, setting);
                if (page >= other.pages.size() || !isWidow(other, page)) {
                    return 10 * p + setting;
                }
            }
        }
        return -1;
    }

    int saved() {
        return costs(plain(-1, 0)) - costs(best());
    }

    float fullness() {
        Made made = best();
        return made.pages.isEmpty() ? 0 : (float) plan(true, 6) / (float) (made.pages.size() * data.height);
    }

    // Changes.

    private void change() {
        changes.addLast(data);
        if (changes.size() > 8) {
            changes.removeFirst();
        }
        data = data.copy();
    }

    int fix(int p, int setting) {
        para(p);
        range(setting, -1, 2);
        change();
        int before = para(p).fixed;
        para(p).fixed = setting;
        return before;
    }

    boolean begin(int p, boolean isPage) {
        para(p);
        change();
        boolean before = para(p).page;
        para(p).page = isPage;
        return before;
    }

    int insert(int at, int words, int length) {
        range(at, 0, data.paras.size());
        range(words, 1, 30);
        range(length, 1, data.width - data.slack);
        if (data.paras.size() == 16) {
            throw new IllegalStateException();
        }
        change();
        Para para = new Para();
        for (int k = 0; k < words; k++) {
            para.words.add(length);
        }
        data.paras.add(at, para);
        return data.paras.size();
    }

    int remove(int p) {
        int words = para(p).words.size();
        change();
        data.paras.remove(p);
        return words;
    }

    int retouch(int p, int k, int length) {
        int words = para(p).words.size();
        range(k, 0, words);
        range(length, k == words ? 1 : 0, data.width - data.slack);
        int then = words + (k == words ? 1 : 0) - (length == 0 ? 1 : 0);
        if (then < 1 || then > 30) {
            throw new IllegalStateException();
        }
        change();
        List<Integer> list = para(p).words;
        if (k == words) {
            list.add(length);
        } else if (length == 0) {
            list.remove(k);
        } else {
            list.set(k, length);
        }
        return lines(para(p), 0).size();
    }

    int setCost(int which, int cost) {
        range(which, 0, 5);
        range(cost, 0, 999);
        change();
        int before = data.costs[which];
        data.costs[which] = cost;
        return before;
    }

    int undo() {
        if (changes.isEmpty()) {
            return -1;
        }
        data = changes.removeLast();
        return changes.size();
    }

    long checksum() {
        List<Integer> numbers = new ArrayList<>();
        for (int what = 0; what <= 12; what++) {
            numbers.add(state(what));
        }
        for (int p = 0; p < data.paras.size(); p++) {
            for (int what = 0; what <= 7; what++) {
                numbers.add(paragraph(p, what));
            }
        }
        for (boolean isBest : new boolean[] {false, true}) {
            for (int what = 0; what <= 6; what++) {
                numbers.add(plan(isBest, what));
            }
            for (int page = 0; page < made(isBest).pages.size(); page++) {
                for (int what = 0; what <= 4; what++) {
                    numbers.add(page(isBest, page, what));
                }
            }
        }
        long sum = 0;
        for (int number : numbers) {
            sum = 31 * sum + number;
        }
        return sum;
    }
}
