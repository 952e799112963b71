import java.io.IOException;
import java.nio.file.Files;
import java.nio.file.Path;
import java.util.ArrayList;
import java.util.List;

/** The code in README.md: it stands here word for word, and its calls answer as README.md says. */
public final class ReadmeTest extends Answers {
    private static final String BEGIN = "// README begin";
    private static final String END = "// README end";

    public static void main(String[] args) throws IOException {
        promise("README.md");
        example();
        sameCode();
        endTests("ReadmeTest");
    }

    // README begin
    static int load(WidowWatch watch, String text) {
        for (int at = 0; at < text.length(); at += 20) {
            int[] w = new int[5];
            for (int i = 0; i < 20; i++) {
                w[i / 4] = w[i / 4] << 8 | (at + i < text.length() ? text.charAt(at + i) : ' ');
            }
            watch.append(w[0], w[1], w[2], w[3], w[4]);
        }
        return watch.load(text.length());
    }
    // README end

    private static void example() {
        // README begin
        WidowWatch watch = new WidowWatch();
        int paragraphs = load(watch, "book 10 2 2;para 5 6 8;"); // 1
        int plainPages = watch.plan(false, 1);    // 2: three lines
        int plainCosts = watch.plan(false, 0);    // 20: a widow on page 1
        int help = watch.help(1);                 // 1: paragraph 0 in the setting 1, tight, would help
        int bestCosts = watch.plan(true, 0);      // 2: two tight lines on one page
        int setting = watch.paragraph(0, 7);      // 1: that of the best plan
        int before = watch.fix(0, 0);             // -1: it was free; now it is fixed to normal
        int fixedCosts = watch.plan(true, 0);     // 12: page 0 is a line short (2), page 1 begins with an orphan (10)
        int left = watch.undo();                  // 1: the fix is undone; load is the change left
        int error = load(watch, "book 10 2 2;para 5 9;"); // -3, OUT_OF_RANGE: the book is still the one before
        int offset = watch.errorOffset();         // 19: a word takes at most the width less the slack
        // README end
        due("paragraphs", 1, () -> paragraphs);
        due("plainPages", 2, () -> plainPages);
        due("plainCosts", 20, () -> plainCosts);
        due("help", 1, () -> help);
        due("bestCosts", 2, () -> bestCosts);
        due("setting", 1, () -> setting);
        due("before", -1, () -> before);
        due("fixedCosts", 12, () -> fixedCosts);
        due("left", 1, () -> left);
        due("error", WidowWatch.OUT_OF_RANGE, () -> error);
        due("offset", 19, () -> offset);
        due("the book is still the one before", 3, () -> watch.state(5));
        watch.fix(0, 0);
        due("a line short", 2, () -> watch.page(true, 0, 4));
        due("an orphan", 10, () -> watch.page(true, 1, 3));
    }

    private static void sameCode() throws IOException {
        List<String> told = blocks("README.md", "```java", "```");
        List<String> run = blocks("src/test/java/ReadmeTest.java", BEGIN, END);
        due("blocks of code", 2, told::size);
        due("the code of README.md", run, () -> told);
    }

    /** What stands between lines begin and end, without the indent of begin. */
    private static List<String> blocks(String file, String begin, String end) throws IOException {
        List<String> blocks = new ArrayList<>();
        StringBuilder block = null;
        int indent = 0;
        for (String line : Files.readAllLines(Path.of(file))) {
            if (line.strip().equals(begin)) {
                block = new StringBuilder();
                indent = line.indexOf(begin);
            } else if (block != null && line.strip().equals(end)) {
                blocks.add(block.toString());
                block = null;
            } else if (block != null) {
                block.append(line.isEmpty() ? line : line.substring(indent)).append('\n');
            }
        }
        return blocks;
    }
}
