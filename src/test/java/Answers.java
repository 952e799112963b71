import java.util.NoSuchElementException;
import java.util.function.Supplier;

/** What the tests by hand are written with: calls, each with the answer that is due, under a promise and a sentence. */
abstract class Answers {
    static final Class<?> NO_INDEX = IndexOutOfBoundsException.class;
    static final Class<?> NO_ARGUMENT = IllegalArgumentException.class;
    static final Class<?> NO_ELEMENT = NoSuchElementException.class;
    static final Class<?> NO_STATE = IllegalStateException.class;
    static final String THIRTY = " 1".repeat(30);

    private static int wrong = 0;
    private static int asked = 0;
    private static int askedBefore = 0;
    private static int sentences = 0;
    private static String promise = "";
    private static String sentence = "";

    interface Row {
        int at(int index);
    }

    static void promise(String name) {
        endSentence();
        promise = name;
    }

    /** What follows is the test of this sentence of the document. */
    static void says(String words) {
        endSentence();
        sentence = words;
        askedBefore = asked;
        sentences++;
    }

    private static void endSentence() {
        if (!sentence.isEmpty() && asked == askedBefore) {
            wrong++;
            System.out.println("promise " + promise + ", \"" + sentence + "\": nothing is asked of it");
        }
        sentence = "";
    }

    static void endTests(String what) {
        endSentence();
        String of = sentences == 0 ? "" : " of " + sentences + " sentences";
        System.out.println(wrong == 0 ? what + ": all " + asked + " answers" + of + " are as due"
                : what + ": " + wrong + " answers are wrong");
        if (wrong != 0) {
            System.exit(1);
        }
    }

    static void append(WidowWatch x, String text) {
        for (int at = 0; at < text.length(); at += 20) {
            int[] five = new int[5];
            for (int i = 0; i < 20; i++) {
                five[i / 4] = five[i / 4] << 8 | (at + i < text.length() ? text.charAt(at + i) : '?');
            }
            x.append(five[0], five[1], five[2], five[3], five[4]);
        }
    }

    static int feed(WidowWatch x, String text) {
        append(x, text);
        return x.load(text.length());
    }

    static WidowWatch loaded(String text) {
        WidowWatch x = new WidowWatch();
        int answer = feed(x, text);
        if (answer < 0) {
            due("load \"" + text + "\"", "no error", () -> answer);
        }
        return x;
    }

    static void error(String text, int code, int offset) {
        WidowWatch x = new WidowWatch();
        due("load \"" + text + "\"", code, () -> feed(x, text));
        due("errorOffset of \"" + text + "\"", offset, x::errorOffset);
    }

    static void good(String text, int paragraphs) {
        error(text, paragraphs, -1);
    }

    static void row(String name, int[] want, Row got) {
        for (int i = 0; i < want.length; i++) {
            int index = i;
            due(name + ", " + i, want[i], () -> got.at(index));
        }
    }

    /** The call throws this exception, and all that the object tells is as before. */
    static void refused(WidowWatch x, String call, Class<?> want, Supplier<Object> got) {
        String before = told(x);
        int offset = x.errorOffset();
        due(call, want, got);
        due("all that is told behind " + call, before, () -> told(x));
        due("errorOffset behind " + call, offset, x::errorOffset);
    }

    /** Every number that the object tells of its data. */
    static String told(WidowWatch x) {
        StringBuilder all = new StringBuilder().append(x.checksum());
        for (int what = 0; what <= 12; what++) {
            all.append(' ').append(x.state(what));
        }
        for (int p = 0; p < x.state(4); p++) {
            for (int what = 0; what <= 7; what++) {
                all.append(' ').append(x.paragraph(p, what));
            }
            for (int k = 0; k < x.paragraph(p, 0); k++) {
                all.append(' ').append(x.word(p, k));
            }
        }
        return all.toString();
    }

    /** want is the answer that is due, or the class of the exception: this very one, the machine's own have others. */
    static void due(String call, Object want, Supplier<Object> got) {
        Object answer;
        try {
            answer = got.get();
        } catch (RuntimeException thrown) {
            answer = thrown.getClass();
        }
        asked++;
        if (!answer.equals(want)) {
            wrong++;
            String said = sentence.isEmpty() ? "" : ", \"" + sentence + "\"";
            System.out.println("promise " + promise + said + ": " + call + " answered " + answer + ", due is " + want);
        }
    }
}
