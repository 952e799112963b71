import java.math.BigInteger;

/** The edges that the document's sentences name: lines, pages, costs, plans and what tells of them. */
public final class PlanBoundariesTest extends Answers {
    private static final int[] OUTSIDE = {-1, Integer.MIN_VALUE, Integer.MAX_VALUE};
    private static final String EIGHTS = " 8".repeat(30);

    public static void main(String[] args) {
        lines();
        pageEnds();
        limits();
        settingAndShortCosts();
        beginCosts();
        bestSettings();
        bestPages();
        plainPlan();
        state();
        paragraph();
        word();
        lineLength();
        plan();
        page();
        pageOf();
        help();
        helpLooksAt();
        savedAndFullness();
        checksum();
        endTests("PlanBoundariesTest");
    }

    private static String eights(int count) {
        return " 8".repeat(count) + ";";
    }

    private static void sizes(String name, int[] want, WidowWatch x, boolean isBest) {
        due(name + ", pages", want.length, () -> x.plan(isBest, 1));
        row(name + ", page sizes", want, page -> x.page(isBest, page, 0));
        due(name + ", the page behind", NO_INDEX, () -> x.page(isBest, want.length, 0));
    }

    private static void lines() {
        promise("Terms, paragraphs and lines");
        says("Its lines hold the width in the setting normal, the width plus the slack in tight, "
                + "the width less the slack in loose.");
        WidowWatch x = loaded("book 20 5 5;para 10 9;para 10 10;para 12 12;para 13 12;para 7 7;para 8 7;");
        row("20 in normal", new int[] {1, 2, 2, 2, 1, 1}, p -> x.paragraph(p, 1));
        row("25 in tight", new int[] {1, 1, 1, 2, 1, 1}, p -> x.paragraph(p, 2));
        row("15 in loose", new int[] {2, 2, 2, 2, 1, 2}, p -> x.paragraph(p, 3));
        WidowWatch none = loaded("book 20 5 0;para 10 9;para 10 10;");
        row("without slack", new int[] {1, 1, 1}, setting -> none.paragraph(0, 1 + setting));
        row("without slack", new int[] {2, 2, 2}, setting -> none.paragraph(1, 1 + setting));
        WidowWatch least = loaded("book 10 2 9;para" + THIRTY + ";");
        row("10, 19 and 1", new int[] {6, 3, 30}, setting -> least.paragraph(0, 1 + setting));
        WidowWatch most = loaded("book 60 2 9;para 34 34;para 34 35;para 25 25;para 26 25;");
        row("69 in tight", new int[] {1, 2, 1, 1}, p -> most.paragraph(p, 2));
        row("51 in loose", new int[] {2, 2, 1, 2}, p -> most.paragraph(p, 3));

        says("a word comes into the present line if the lengths of the words of the line, this one, and 1 for each "
                + "space between two of them are together not more than the line holds; otherwise it begins the next "
                + "line.");
        WidowWatch y = loaded("book 20 5 0;para 6 6 6;para 6 6 7;para 20 20;para 19 1;para 18 1;para" + THIRTY + ";");
        row("lines", new int[] {1, 2, 2, 2, 1, 3}, p -> y.paragraph(p, 1));
        due("three words and two spaces", 20, () -> y.lineLength(0, 0, 0));
        row("the third word does not come in", new int[] {13, 7}, line -> y.lineLength(1, 0, line));
        row("a word that fills its line", new int[] {20, 20}, line -> y.lineLength(2, 0, line));
        row("10 words of 1", new int[] {19, 19, 19}, line -> y.lineLength(5, 0, line));
        due("59 of 59", 1, () -> loaded("book 59 2 0;para" + THIRTY + ";").paragraph(0, 1));
        due("59 of 58", 2, () -> loaded("book 58 2 0;para" + THIRTY + ";").paragraph(0, 1));
    }

    private static void pageEnds() {
        promise("Terms, pages");
        says("Ahead of each line but the first one of the book (whatever it begins), the present page, "
                + "which has a line at least, ends or not");
        for (String kind : new String[] {"para page", "heading page", "para", "heading"}) {
            WidowWatch x = loaded("book 10 2 0;limit 9;costs 0 0 0 0 0 0;" + kind + " 8;");
            sizes("plain, " + kind, new int[] {1}, x, false);
            sizes("best, " + kind, new int[] {1}, x, true);
        }
        // It would help if the page could end ahead of the first line: the heading's page would have room for one.
        WidowWatch heading = loaded("book 10 2 0;limit 9;costs 0 0 0 0 0 99;heading 8;heading 8;para 8;");
        sizes("no page without lines", new int[] {2, 1}, heading, true);
        due("costs", 99, () -> heading.plan(true, 0));

        says("It must end if it has as many lines as the height");
        sizes("2 of 2", new int[] {2}, loaded("book 10 2 0;limit 0;para" + eights(2)), false);
        sizes("3 of 2", new int[] {2, 1}, loaded("book 10 2 0;limit 0;para" + eights(3)), false);
        sizes("3 of 2, best", new int[] {2, 1}, loaded("book 10 2 0;limit 0;para" + eights(3)), true);
        sizes("40 of 40", new int[] {40}, loaded("book 10 40 0;para" + EIGHTS + ";para" + eights(10)), false);
        sizes("40 of 40, best", new int[] {40}, loaded("book 10 40 0;para" + EIGHTS + ";para" + eights(10)), true);
        WidowWatch more = loaded("book 10 40 0;limit 0;para" + EIGHTS + ";para" + eights(11));
        sizes("41 of 40", new int[] {40, 1}, more, false);
        sizes("41 of 40, best", new int[] {40, 1}, more, true);

        says("or if the line is the first one of a paragraph that begins a page.");
        WidowWatch short1 = loaded("book 10 40 0;limit 0;para 8;para page 8 8;para 8;para page 8;");
        sizes("a page of a line", new int[] {1, 3, 1}, short1, false);
        sizes("best", new int[] {1, 3, 1}, short1, true);
        WidowWatch full = loaded("book 10 2 0;limit 0;para 8 8;para page 8;");
        sizes("a full page", new int[] {2, 1}, full, false);
        sizes("best", new int[] {2, 1}, full, true);
    }

    // A paragraph of some lines, then headings of a line each up to the foot of a page of 12, and one line more: only
    // an end behind the first paragraph avoids the cost heading.
    private static WidowWatch headings(int limit, int lines) {
        return loaded("book 10 12 0;limit " + limit + ";costs 1 1 1 0 0 999;para" + eights(lines)
                + "heading 8;".repeat(12 - lines) + "para 8;");
    }

    private static void limits() {
        promise("Terms, pages");
        says("Otherwise it can end if it has not more than the limit (0 to 9) lines less than the height.");
        for (int limit = 0; limit <= 9; limit++) {
            int lacking = limit;
            if (limit > 0) {
                due("as many as the limit " + limit, limit, () -> headings(lacking, 12 - lacking).plan(true, 0));
                due("lines of it", 12 - limit, () -> headings(lacking, 12 - lacking).page(true, 0, 0));
            }
            if (limit < 9) {
                due("one more than the limit " + limit, 999, () -> headings(lacking, 11 - lacking).plan(true, 0));
                due("lines of it", 12, () -> headings(lacking, 11 - lacking).page(true, 0, 0));
            }
        }
        due("10 with the limit 9", 999, () -> headings(9, 2).plan(true, 0));
        // More than the height: a page of a line can end then.
        WidowWatch low = loaded("book 10 2 0;limit 9;costs 1 1 1 99 99 99;para 8;para" + eights(2));
        sizes("a page of a line", new int[] {1, 2}, low, true);
        due("its cost", 1, () -> low.plan(true, 0));
    }

    private static void settingAndShortCosts() {
        promise("Terms, the costs of a plan");
        says("for each paragraph in the setting tight its lines times the cost tight, in loose its lines times the "
                + "cost loose;");
        WidowWatch x = loaded("book 10 9 2;costs 7 100 0 0 0 0;para 5 6 4 5;para 5 6 4 5;para 5 6 4 5;");
        x.fix(0, 1);
        x.fix(1, 2);
        x.fix(2, 0);
        due("2 tight lines and 4 loose ones", 414, () -> x.plan(true, 0));
        x.setCost(0, 0);
        x.setCost(1, 0);
        due("at no cost", 0, () -> x.plan(true, 0));
        WidowWatch most = new WidowWatch();
        feed(most, "book 10 40 0;limit 0;costs 999 999 999 999 999 999;");
        for (int p = 0; p < 8; p++) {
            most.insert(p, 30, 8);
            most.fix(p, 1 + p % 2);
        }
        due("240 lines at 999", 239760, () -> most.plan(true, 0));

        says("for each page that ends ahead of a line that is not the first one of a paragraph that begins a page: "
                + "the lines that it has less than the height, times the cost short;");
        WidowWatch full = loaded("book 10 2 0;costs 1 1 999 0 0 0;para" + eights(2) + "para 8;");
        due("a full page", 0, () -> full.page(true, 0, 4));
        WidowWatch begins = loaded("book 10 40 0;limit 9;costs 1 1 999 0 0 0;para 8;para page 8;");
        due("ahead of one that begins a page", 0, () -> begins.page(true, 0, 4));
        due("costs", 0, () -> begins.plan(true, 0));
        WidowWatch second = loaded("book 10 3 0;costs 1 1 5 500 500 0;para page" + eights(4));
        due("ahead of the third line of one that begins a page", 5, () -> second.page(true, 0, 4));
        WidowWatch nine = headings(9, 3);
        nine.setCost(2, 111);
        due("9 lines less at 111 are as dear as the heading", 999, () -> nine.plan(true, 0));
        due("so it is not ended", 12, () -> nine.page(true, 0, 0));
        nine.setCost(2, 110);
        due("9 lines less at 110", 990, () -> nine.page(true, 0, 4));

        says("(The last page costs nothing for lines that it has less.)");
        WidowWatch last = loaded("book 10 40 0;costs 1 1 999 999 999 999;para 8;");
        due("the only page", 0, () -> last.page(true, 0, 4));
        due("costs", 0, () -> last.plan(true, 0));
        WidowWatch two = loaded("book 10 3 0;limit 9;costs 1 1 999 0 0 0;para" + eights(4));
        row("ends", new int[] {0, 0}, page -> two.page(true, page, 4));
        due("plain costs", 0, () -> two.plan(false, 0));
    }

    // One line ahead of the paragraph on a page of 2, of which no page can end early.
    private static WidowWatch behindOneLine(String paragraph) {
        return loaded("book 10 2 2;limit 0;costs 0 0 0 400 50 6;para 8;" + paragraph);
    }

    private static void beginCosts() {
        promise("Terms, the costs of a plan");
        says("for each page but the first one, whose first line is the last one of a paragraph of at least 2 lines: "
                + "the cost widow;");
        due("of 3 lines", 400,
                () -> loaded("book 10 2 0;limit 0;costs 0 0 0 400 50 6;para" + eights(3)).page(false, 1, 3));
        due("of one line", 0, () -> loaded("book 10 2 0;limit 0;para 8 8;para 8;").page(false, 1, 3));
        due("the first page", 0, () -> loaded("book 10 2 0;para 8;").page(false, 0, 3));
        due("the last but one", 0, () -> loaded("book 10 2 0;limit 0;para" + eights(4)).page(false, 1, 3));

        says("for each page but the first one, whose first line is the second one of a paragraph (of at least 2 "
                + "lines): the cost orphan (also beside the cost widow);");
        due("of 2 lines, both", 450, () -> behindOneLine("para" + eights(2)).page(false, 1, 3));
        due("of 3 lines, orphan alone", 50, () -> behindOneLine("para" + eights(3)).page(false, 1, 3));
        due("best too", 450, () -> behindOneLine("para" + eights(2)).plan(true, 0));
        due("the third line", 0, () -> loaded("book 10 2 0;limit 0;para" + eights(4)).page(false, 1, 3));
        due("a line of the first page", 0, () -> loaded("book 10 2 0;limit 0;para" + eights(2)).plan(false, 0));

        says("for each page but the first one, whose first line is the first one of a paragraph (also of one that "
                + "begins a page) behind a heading: the cost heading.");
        due("behind a heading", 6, () -> behindOneLine("heading 8;para 8;").page(false, 1, 3));
        due("of one that begins a page", 6, () -> behindOneLine("heading 8;para page 8;").page(false, 1, 3));
        due("a heading behind a heading", 6, () -> behindOneLine("heading 8;heading 8;").page(false, 1, 3));
        due("a heading behind none", 0, () -> behindOneLine("para 8;heading 8;").page(false, 1, 3));
        due("two behind it", 0, () -> loaded("book 10 2 0;limit 0;heading 8;para 8;para 8;").page(false, 1, 3));
        due("the second line behind a heading", 450,
                () -> loaded("book 10 2 0;limit 0;costs 0 0 0 400 50 6;heading 8;para 8 8;").page(false, 1, 3));
        due("the heading's own second line", 450, () -> behindOneLine("heading 8 8;").page(false, 1, 3));
        due("the first page", 0, () -> loaded("book 10 2 0;heading 8;").page(false, 0, 3));
    }

    private static void bestSettings() {
        promise("Terms, the best plan");
        says("of several the first one, if they are compared decision by decision: ahead of a paragraph its setting "
                + "(the smaller number is ahead)");
        WidowWatch free = loaded("book 10 2 2;limit 9;costs 0 0 0 0 0 0;para 5 6 4 5;heading 5 6;para 4 5;");
        row("all at no cost", new int[] {0, 0, 0}, p -> free.paragraph(p, 7));
        sizes("nor an end", new int[] {2, 2, 2}, free, true);
        // Normal 3 lines and a widow, tight 2 lines, loose 4.
        WidowWatch tie = loaded("book 10 2 2;limit 0;costs 10 5 0 20 10 30;para 5 6 4 5;");
        due("20, 20 and 20", 0, () -> tie.paragraph(0, 7));
        tie.setCost(3, 21);
        due("21, 20 and 20", 1, () -> tie.paragraph(0, 7));
        tie.setCost(0, 11);
        due("21, 22 and 20", 2, () -> tie.paragraph(0, 7));
        tie.setCost(1, 6);
        due("21, 22 and 24", 0, () -> tie.paragraph(0, 7));
        // Seven lines on pages of 6: one tight line less anywhere keeps the last one on the page.
        WidowWatch order = loaded("book 10 6 2;limit 0;para 5 6;para 5 6;para 8 8 8;");
        row("the later one is tight", new int[] {0, 1, 0}, p -> order.paragraph(p, 7));
        due("costs", 1, () -> order.plan(true, 0));

        says("A plan tells the setting of each paragraph (that to which it is fixed, if it is)");
        order.fix(1, 0);
        row("now the first one", new int[] {1, 0, 0}, p -> order.paragraph(p, 7));
        order.fix(0, 2);
        row("now none", new int[] {2, 0, 0}, p -> order.paragraph(p, 7));
        due("two loose lines and a widow", 22, () -> order.plan(true, 0));
        order.fix(0, -1);
        order.fix(1, -1);
        row("as at first", new int[] {0, 1, 0}, p -> order.paragraph(p, 7));
    }

    private static void bestPages() {
        promise("Terms, the best plan");
        says("then for each of its lines whether the page ends ahead of it (not to end is ahead).");
        WidowWatch late = loaded("book 10 4 0;limit 9;costs 0 0 0 20 0 0;para" + eights(5));
        sizes("the latest end without a widow", new int[] {3, 2}, late, true);
        WidowWatch forced = loaded("book 10 4 0;limit 3;costs 0 0 0 0 0 0;para 8;para page 8;para 8;");
        sizes("none but what must be", new int[] {1, 2}, forced, true);

        // The heading's last two lines go with the next one, which is too long for the page behind its 14.
        WidowWatch thirty = loaded("book 10 16 0;limit 4;costs 0 0 1 20 10 999;heading" + EIGHTS + ";para 8 8 8;");
        sizes("ends within a paragraph of 30 lines, for one behind it", new int[] {16, 12, 5}, thirty, true);
        due("costs", 4, () -> thirty.plan(true, 0));
        WidowWatch gone = loaded("book 10 2 0;costs 0 0 1 0 0 50;para 8;heading 8;para 8;");
        sizes("an end for a paragraph behind", new int[] {1, 2}, gone, true);
        gone.remove(2);
        sizes("none when it is gone", new int[] {2}, gone, true);

        says("compared decision by decision, in the order of the book");
        // The paragraph's setting is decided ahead of the end ahead of its first line: normal, then.
        WidowWatch setting = loaded("book 10 2 2;costs 2 99 2 20 10 30;para 8;para 5 6;");
        due("costs", 2, () -> setting.plan(true, 0));
        due("normal", 0, () -> setting.paragraph(1, 7));
        sizes("and an early end", new int[] {1, 2}, setting, true);
        setting.setCost(0, 1);
        due("tight is cheaper", 1, () -> setting.paragraph(1, 7));
        // An end within the heading is decided ahead of the next one's setting: not to end, then.
        WidowWatch end = loaded("book 10 5 2;limit 3;costs 3 99 1 20 10 999;heading 8 8 8 8;para 5 6;");
        due("costs", 3, () -> end.plan(true, 0));
        row("tight", new int[] {0, 1}, p -> end.paragraph(p, 7));
        sizes("and no end", new int[] {5}, end, true);
        end.setCost(0, 4);
        row("normal", new int[] {0, 0}, p -> end.paragraph(p, 7));
        sizes("and an end", new int[] {2, 4}, end, true);
    }

    private static void plainPlan() {
        promise("Terms, the plain plan");
        says("The plain plan has the setting normal for all paragraphs (also for those that are fixed to another "
                + "one), and no page ends that can but need not.");
        for (int setting = -1; setting <= 2; setting++) {
            WidowWatch x = loaded("book 10 2 2;limit 9;para 5 6 4 5;");
            int fixed = setting;
            x.fix(0, fixed);
            sizes("fixed to " + fixed, new int[] {2, 1}, x, false);
            due("costs", 20, () -> x.plan(false, 0));
            due("all lines", 3, () -> x.plan(false, 6));
        }
        sizes("at no cost", new int[] {3, 1}, loaded("book 10 3 0;limit 9;costs 0 0 0 99 99 99;para" + eights(4)),
                false);
    }

    private static void state() {
        promise("5 state");
        says("IllegalArgumentException if what is out of range: 0 to 12");
        WidowWatch x = loaded("book 50 30 7;limit 5;costs 11 12 13 14 15 16;para 1 2;heading 3;");
        due("the first", 50, () -> x.state(0));
        due("the last", 16, () -> x.state(12));
        refused(x, "state 13", NO_ARGUMENT, () -> x.state(13));
        for (int what : OUTSIDE) {
            refused(x, "state " + what, NO_ARGUMENT, () -> x.state(what));
        }

        says("4 paragraphs, 5 words of all paragraphs, 6 paragraphs that are fixed");
        row("none", new int[] {0, 0, 0}, i -> new WidowWatch().state(4 + i));
        WidowWatch most = new WidowWatch();
        for (int p = 0; p < 16; p++) {
            most.insert(p, 30, 1);
            most.fix(p, p % 3);
        }
        row("most", new int[] {16, 480, 16}, i -> most.state(4 + i));
        most.fix(15, -1);
        due("one is free again", 15, () -> most.state(6));
    }

    private static void paragraph() {
        promise("6 paragraph");
        says("IndexOutOfBoundsException if there is no such paragraph");
        WidowWatch x = loaded("book 10 2 2;para 5 6 8;heading page 4 5;");
        due("the first", 3, () -> x.paragraph(0, 0));
        due("the last", 2, () -> x.paragraph(1, 0));
        refused(x, "paragraph 2", NO_INDEX, () -> x.paragraph(2, 0));
        for (int p : OUTSIDE) {
            refused(x, "paragraph " + p, NO_INDEX, () -> x.paragraph(p, 0));
            refused(x, "paragraph " + p + " and what 8", NO_INDEX, () -> x.paragraph(p, 8));
        }
        due("of none", NO_INDEX, () -> new WidowWatch().paragraph(0, 0));

        says("IllegalArgumentException if what is out of range: 0 to 7");
        due("the last", 1, () -> x.paragraph(0, 7));
        refused(x, "what 8", NO_ARGUMENT, () -> x.paragraph(1, 8));
        for (int what : OUTSIDE) {
            refused(x, "what " + what, NO_ARGUMENT, () -> x.paragraph(0, what));
        }

        says("6 the setting to which it is fixed (-1 if free)");
        due("free", -1, () -> x.paragraph(1, 6));
        for (int setting = 0; setting <= 2; setting++) {
            int fixed = setting;
            x.fix(1, fixed);
            due("fixed", fixed, () -> x.paragraph(1, 6));
            due("in the best plan", fixed, () -> x.paragraph(1, 7));
        }
    }

    private static void word() {
        promise("7 word");
        WidowWatch x = loaded("book 10 2 2;para 5 6 8;heading 4;para" + THIRTY.substring(2) + " 7;");
        says("NoSuchElementException if it has not so many words");
        due("the first", 5, () -> x.word(0, 0));
        due("the last", 8, () -> x.word(0, 2));
        due("the 30th", 7, () -> x.word(2, 29));
        refused(x, "k 3", NO_ELEMENT, () -> x.word(0, 3));
        refused(x, "k 1", NO_ELEMENT, () -> x.word(1, 1));
        refused(x, "k 30", NO_ELEMENT, () -> x.word(2, 30));
        for (int k : OUTSIDE) {
            refused(x, "k " + k, NO_ELEMENT, () -> x.word(0, k));
        }

        says("IndexOutOfBoundsException if there is no such paragraph");
        refused(x, "paragraph 3", NO_INDEX, () -> x.word(3, 0));
        for (int p : OUTSIDE) {
            refused(x, "paragraph " + p, NO_INDEX, () -> x.word(p, 0));
            refused(x, "paragraph and k " + p, NO_INDEX, () -> x.word(p, p));
        }
    }

    private static void lineLength() {
        promise("8 lineLength");
        // 2 tight lines, 3 normal ones, 4 loose ones.
        WidowWatch x = loaded("book 10 2 2;para 5 6 4 5;");
        says("NoSuchElementException if it has not so many lines");
        int[] counts = {3, 2, 4};
        int[] last = {10, 10, 5};
        for (int setting = 0; setting <= 2; setting++) {
            int asked = setting;
            due("the last line in " + asked, last[asked], () -> x.lineLength(0, asked, counts[asked] - 1));
            refused(x, "one more in " + asked, NO_ELEMENT, () -> x.lineLength(0, asked, counts[asked]));
            for (int line : OUTSIDE) {
                refused(x, "line " + line + " in " + asked, NO_ELEMENT, () -> x.lineLength(0, asked, line));
            }
        }
        due("the 30th", 1, () -> loaded("book 10 2 9;para" + THIRTY + ";").lineLength(0, 2, 29));
        due("none of 31", NO_ELEMENT, () -> loaded("book 10 2 9;para" + THIRTY + ";").lineLength(0, 2, 30));
        x.retouch(0, 3, 0);
        x.retouch(0, 2, 0);
        due("behind a retouch", NO_ELEMENT, () -> x.lineLength(0, 1, 1));

        says("IllegalArgumentException if setting is out of range");
        refused(x, "setting 3", NO_ARGUMENT, () -> x.lineLength(0, 3, 0));
        for (int setting : OUTSIDE) {
            refused(x, "setting " + setting, NO_ARGUMENT, () -> x.lineLength(0, setting, 0));
            refused(x, "setting and line " + setting, NO_ARGUMENT, () -> x.lineLength(0, setting, setting));
        }

        says("IndexOutOfBoundsException if there is no such paragraph");
        refused(x, "paragraph 1", NO_INDEX, () -> x.lineLength(1, 0, 0));
        for (int p : OUTSIDE) {
            refused(x, "paragraph " + p, NO_INDEX, () -> x.lineLength(p, 0, 0));
            refused(x, "paragraph and setting " + p, NO_INDEX, () -> x.lineLength(p, p, 0));
            refused(x, "paragraph and line " + p, NO_INDEX, () -> x.lineLength(p, 0, p));
        }

        says("Returns how much of this line its words and spaces take in this setting.");
        due("one word, no space", 8, () -> loaded("book 10 2 2;para 8;").lineLength(0, 2, 0));
        due("the full width", 60, () -> loaded("book 60 2 0;para 30 29;").lineLength(0, 0, 0));
        due("and the slack", 69, () -> loaded("book 60 2 9;para 34 34;").lineLength(0, 1, 0));
    }

    private static void plan() {
        promise("9 plan");
        WidowWatch x = loaded("book 10 2 0;limit 0;para 8;para" + eights(2) + "heading 8;para page 8;");
        says("IllegalArgumentException if what is out of range: 0 to 6");
        due("the first", 60, () -> x.plan(false, 0));
        due("the last", 5, () -> x.plan(true, 6));
        for (boolean isBest : new boolean[] {false, true}) {
            refused(x, "what 7", NO_ARGUMENT, () -> x.plan(isBest, 7));
            for (int what : OUTSIDE) {
                refused(x, "what " + what, NO_ARGUMENT, () -> x.plan(isBest, what));
            }
        }

        says("1 its pages (0 without paragraphs)");
        row("plain", new int[7], what -> new WidowWatch().plan(false, what));
        row("best", new int[7], what -> new WidowWatch().plan(true, what));
        due("with one", 1, () -> loaded("book 10 2 0;para 8;").plan(true, 1));
        x.remove(0);
        x.remove(0);
        x.remove(0);
        x.remove(0);
        row("all removed, plain", new int[7], what -> x.plan(false, what));
        row("all removed, best", new int[7], what -> x.plan(true, what));
        due("page 0", NO_INDEX, () -> x.page(true, 0, 0));

        says("2 widows (pages but the first one that begin with the last line of a paragraph of at least 2 lines), "
                + "3 orphans (likewise with its second line)");
        row("3 lines", new int[] {1, 0}, i -> loaded("book 10 2 0;limit 0;para" + eights(3)).plan(false, 2 + i));
        row("2 lines", new int[] {1, 1}, i -> behindOneLine("para" + eights(2)).plan(false, 2 + i));
        row("a line", new int[] {0, 0}, i -> behindOneLine("para 8;para 8;").plan(false, 2 + i));
        row("4 lines", new int[] {1, 1}, i -> behindOneLine("para" + eights(4)).plan(false, 2 + i));
        row("the first page", new int[] {0, 0}, i -> loaded("book 10 2 0;para 8 8;").plan(false, 2 + i));

        says("4 pages that begin behind a heading (with the first line of the paragraph behind it)");
        due("its first line", 1, () -> behindOneLine("heading 8;para 8;").plan(false, 4));
        due("its second line", 0, () -> behindOneLine("heading 8;").plan(false, 4)
                + loaded("book 10 2 0;limit 0;heading 8;para 8 8;").plan(false, 4));
        due("the first page", 0, () -> loaded("book 10 2 0;heading 8;para 8;").plan(false, 4));

        says("what: 0 its costs, 1 its pages, 2 widows, 3 orphans, 4 pages that begin behind a heading, 5 lines that "
                + "pages have less than the height, 6 all lines");
        WidowWatch other = loaded("book 10 3 0;limit 0;costs 0 0 1 400 50 6;heading 8 8 8;para 8 8 8 8;heading 8 8 8;"
                + "para page 8;para 8 8;heading page 8 8;para 8 8;para page 8;");
        row("no two alike", new int[] {1262, 8, 3, 1, 2, 4, 18}, what -> other.plan(false, what));
        row("best too", new int[] {1262, 8, 3, 1, 2, 4, 18}, what -> other.plan(true, what));

        says("5 lines that pages have less than the height (without the last page), 6 all lines");
        row("one page", new int[] {0, 1}, i -> loaded("book 10 40 0;para 8;").plan(false, 5 + i));
        row("ended by a begin", new int[] {78, 3},
                i -> loaded("book 10 40 0;para 8;para page 8;para page 8;").plan(false, 5 + i));
        row("full pages", new int[] {0, 5}, i -> loaded("book 10 2 0;para" + eights(5)).plan(false, 5 + i));
    }

    private static void page() {
        promise("10 page");
        // 3 lines in the plain plan, on two pages; 2 in the best one, on one.
        WidowWatch x = loaded("book 10 2 2;limit 0;para 5 6 4 5;");
        x.fix(0, 1);
        says("IndexOutOfBoundsException if there is no such page, of the plan that is asked");
        due("plain pages", 2, () -> x.plan(false, 1));
        due("best pages", 1, () -> x.plan(true, 1));
        due("the last plain one", 1, () -> x.page(false, 1, 0));
        refused(x, "plain page 2", NO_INDEX, () -> x.page(false, 2, 0));
        due("the last best one", 2, () -> x.page(true, 0, 0));
        refused(x, "best page 1", NO_INDEX, () -> x.page(true, 1, 0));
        for (int page : OUTSIDE) {
            refused(x, "plain page " + page, NO_INDEX, () -> x.page(false, page, 0));
            refused(x, "best page and what " + page, NO_INDEX, () -> x.page(true, page, page));
        }
        due("without paragraphs", NO_INDEX, () -> new WidowWatch().page(false, 0, 0));
        due("without paragraphs", NO_INDEX, () -> new WidowWatch().page(true, 0, 0));

        says("IllegalArgumentException if what is out of range: 0 to 4");
        due("the last", 0, () -> x.page(false, 1, 4));
        for (boolean isBest : new boolean[] {false, true}) {
            refused(x, "what 5", NO_ARGUMENT, () -> x.page(isBest, 0, 5));
            for (int what : OUTSIDE) {
                refused(x, "what " + what, NO_ARGUMENT, () -> x.page(isBest, 0, what));
            }
        }

        says("0 its lines, 1 the paragraph of its first line, 2 the number of this line in the paragraph, from 0");
        WidowWatch high = loaded("book 10 40 0;limit 0;para" + EIGHTS + ";para" + eights(11) + "para page 8;");
        row("the first", new int[] {40, 0, 0}, what -> high.page(true, 0, what));
        row("a line", new int[] {1, 1, 10}, what -> high.page(true, 1, what));
        row("the last", new int[] {1, 2, 0}, what -> high.page(true, 2, what));

        says("3 what its beginning costs (widow, orphan, heading), 4 what its end costs (short)");
        WidowWatch all = loaded("book 10 3 0;costs 0 0 7 400 50 6;heading 8;para page 8 8;heading 8;para 8 8 8 8;");
        row("plain beginnings", new int[] {0, 6, 6, 400}, page -> all.page(false, page, 3));
        row("plain ends", new int[] {0, 0, 0, 0}, page -> all.page(false, page, 4));
        row("best beginnings", new int[] {0, 6, 0, 0}, page -> all.page(true, page, 3));
        row("best ends", new int[] {0, 7, 0, 0}, page -> all.page(true, page, 4));
    }

    private static void pageOf() {
        promise("11 pageOf");
        // 3 lines in the plain plan, 2 in the best one, 4 if it is fixed to loose.
        WidowWatch x = loaded("book 10 2 2;limit 0;para 5 6 4 5;");
        says("NoSuchElementException if it has not so many lines there");
        row("plain", new int[] {0, 0, 1}, line -> x.pageOf(false, 0, line));
        row("best", new int[] {0, 0}, line -> x.pageOf(true, 0, line));
        refused(x, "plain line 3", NO_ELEMENT, () -> x.pageOf(false, 0, 3));
        refused(x, "best line 2", NO_ELEMENT, () -> x.pageOf(true, 0, 2));
        for (int line : OUTSIDE) {
            refused(x, "plain line " + line, NO_ELEMENT, () -> x.pageOf(false, 0, line));
            refused(x, "best line " + line, NO_ELEMENT, () -> x.pageOf(true, 0, line));
        }
        x.fix(0, 2);
        row("loose", new int[] {0, 0, 1, 1}, line -> x.pageOf(true, 0, line));
        refused(x, "plain still", NO_ELEMENT, () -> x.pageOf(false, 0, 3));

        says("IndexOutOfBoundsException if there is no such paragraph");
        refused(x, "paragraph 1", NO_INDEX, () -> x.pageOf(true, 1, 0));
        for (int p : OUTSIDE) {
            refused(x, "paragraph " + p, NO_INDEX, () -> x.pageOf(false, p, 0));
            refused(x, "paragraph and line " + p, NO_INDEX, () -> x.pageOf(true, p, p));
        }

        says("Returns the page on which it is.");
        WidowWatch low = loaded("book 10 2 0;costs 0 0 0 0 0 0;para page 8;para page 8 8 8;para 8;para page 8;");
        row("lines 0 of all", new int[] {0, 1, 2, 3}, p -> low.pageOf(true, p, 0));
        row("lines of one", new int[] {1, 1, 2}, line -> low.pageOf(false, 1, line));
        WidowWatch most = new WidowWatch();
        feed(most, "book 10 2 0;");
        for (int p = 0; p < 16; p++) {
            most.insert(p, 30, 8);
        }
        due("the last of 240", 239, () -> most.pageOf(true, 15, 29));
        due("the last of 240", 239, () -> most.pageOf(false, 15, 29));
    }

    private static void help() {
        promise("12 help");
        WidowWatch x = loaded("book 10 2 2;limit 0;para 5 6 4 5;para 8;");
        says("IndexOutOfBoundsException if there is no such page of the plain plan");
        due("the last", 1, () -> x.help(1));
        refused(x, "page 2", NO_INDEX, () -> x.help(2));
        for (int page : OUTSIDE) {
            refused(x, "page " + page, NO_INDEX, () -> x.help(page));
        }
        due("without paragraphs", NO_INDEX, () -> new WidowWatch().help(0));
        x.fix(0, 1);
        x.begin(1, true);
        due("plain pages", 3, () -> x.plan(false, 1));
        x.retouch(1, 1, 8);
        due("a page that the best plan has not", 2, () -> x.plan(true, 1));
        due("but the plain one", -2, () -> x.help(2));

        says("-2 if the page does not begin with a widow.");
        due("the first page", -2, () -> loaded("book 10 2 0;para 8 8;").help(0));
        due("an orphan", -2, () -> behindOneLine("para" + eights(3)).help(1));
        due("a paragraph of a line", -2, () -> behindOneLine("para 8;para 8;").help(1));
        due("a line behind a heading", -2, () -> behindOneLine("heading 8;para 8;").help(1));
        due("the last but one", -2, () -> loaded("book 10 2 0;para" + eights(4)).help(1));
        due("a widow and orphan", -1, () -> behindOneLine("para" + eights(2)).help(1));

        says("(or there would be no page of this index any more)");
        due("one tight line less", 1, () -> loaded("book 10 2 2;para 5 6 8;").help(1));
        due("page 1 with another line", 1, () -> loaded("book 10 2 2;para 5 6 8;para 8;").help(1));

        says("if it alone was set so in the plain plan (whatever it is fixed to)");
        for (int setting = -1; setting <= 2; setting++) {
            WidowWatch fixed = loaded("book 10 2 2;para 5 6 8;");
            fixed.fix(0, setting);
            due("fixed to " + setting, 1, () -> fixed.help(1));
        }
        WidowWatch other = loaded("book 10 2 2;para 5 6;para 8 8 8;");
        other.fix(0, 1);
        due("the plain plan has it normal", -2, () -> other.help(1));
    }

    private static void helpLooksAt() {
        promise("12 help");
        says("the page of the same index would not begin with the last line of any paragraph of at least 2 lines then");
        due("the widow of another one", -1, () -> loaded("book 10 3 2;para 4 5 4 5;para 8 8;").help(1));
        // Tight, the widow's own has 3 lines, so that one of the next paragraph's lines begins the page.
        String five = "book 10 5 5;para 5;para 5 5 5 5 5;";
        due("the last line of the next one", -1, () -> loaded(five + "para 5 5;").help(1));
        due("the last but one of the next one", 11, () -> loaded(five + "para 5 5 5;").help(1));
        due("the only one of the next one but one", 11, () -> loaded(five + "para 5;para 5;").help(1));
        due("of one that has a line then", 11, () -> behindOneLine("para 5 6;para 8;").help(1));

        says("for a paragraph from that of the widow (it too) upward, and a setting of it other than normal");
        due("its own", 11, () -> behindOneLine("para 5 6;").help(1));
        due("up to the first one of the book", 1,
                () -> loaded("book 10 17 2;para 5 6;" + "para 8;".repeat(14) + "para 8 8;").help(1));

        says("The nearest such paragraph counts, and the smaller one of its settings with which it is so.");
        due("of two", 11, () -> loaded("book 10 6 2;para 5 6;para 5 6;para 8 8 8;").help(1));
        due("tight ahead of loose", 1, () -> loaded("book 10 2 2;para 5 6 4 5;").help(1));
        due("loose alone", 2, () -> loaded("book 10 2 2;para 4 5;para 8;para 8 8 8;").help(2));
        due("loose of the nearest ahead of tight above", 12,
                () -> loaded("book 10 5 2;para 5 6;para 4 5;para 8 8 8;").help(1));

        says("Paragraphs above the last one that begins a page (from that of the widow upward) are not looked at; "
                + "that one is.");
        due("that one", 11, () -> loaded("book 10 6 2;para 5 6;para page 5 6;para 8 8 8 8 8;").help(2));
        due("not above it", -1, () -> loaded("book 10 5 2;para 5 6;para page 8;para 8 8 8 8 8;").help(2));
        due("the widow's own", 11, () -> loaded("book 10 2 2;para 5 6;para page 5 6 8;").help(2));
        due("not above the widow's own", -1, () -> loaded("book 10 2 2;para 5 6 8;para page 8 8 8;").help(3));
        due("a begin below the widow does not matter", 1,
                () -> loaded("book 10 2 2;para 5 6 8;para page 8;").help(1));
        due("the first one of the book, too", 1, () -> loaded("book 10 4 2;para page 5 6;para 8 8 8;").help(1));

        says("Returns 10 * that paragraph + the setting");
        String ahead = "para 8;".repeat(15);
        due("of the last one of 16", 151, () -> loaded("book 10 17 2;" + ahead + "para 5 6 8;").help(1));
        due("with loose", 152, () -> loaded("book 10 17 2;" + ahead + "para 4 5 8 8;").help(1));

        says("-1 if none helps");
        due("without slack", -1, () -> loaded("book 10 2 0;para 5 6 8;").help(1));
    }

    private static void savedAndFullness() {
        promise("13 saved");
        says("(never below 0 if no paragraph is fixed)");
        due("without paragraphs", 0, () -> new WidowWatch().saved());
        due("nothing to save", 0, () -> loaded("book 10 2 2;para 8;").saved());
        WidowWatch x = loaded("book 10 2 2;costs 999 999 999 0 0 0;para 5 6 8;para 4 5 8;");
        due("nothing but dear ways", 0, x::saved);
        x.fix(0, 0);
        due("fixed to normal", 0, x::saved);
        x.fix(0, 1);
        due("fixed to a dear setting", -1998, x::saved);
        due("all of it", 20, () -> loaded("book 10 2 2;costs 0 0 0 20 10 30;para 5 6 8;").saved());

        promise("14 fullness");
        says("both converted to float and divided; 0 without pages.");
        due("without pages", 0f, () -> new WidowWatch().fullness());
        WidowWatch gone = loaded("book 10 3 0;para 8;");
        due("a third", 1f / 3f, gone::fullness);
        gone.remove(0);
        due("without pages any more", 0f, gone::fullness);
        due("full", 1f, () -> loaded("book 10 2 0;para" + eights(4)).fullness());
        due("a line of 40", 1f / 40f, () -> loaded("book 10 40 0;para 8;").fullness());
        due("7 of 9", 7f / 9f, () -> loaded("book 10 3 0;costs 0 0 0 0 0 0;para" + eights(7)).fullness());
        WidowWatch best = loaded("book 10 3 2;para 5 6 4 5;");
        best.fix(0, 1);
        due("of the best plan", 2f / 3f, best::fullness);
    }

    private static void checksum() {
        promise("22 checksum");
        says("It starts at 0; each number n in the following order replaces it by 31 * checksum + n, wrapping around "
                + "on overflow of a long");
        due("a new object", summed(new WidowWatch()), () -> new WidowWatch().checksum());
        // The numbers of the object with no paragraph are too many for a long, too: 27 of them.
        WidowWatch x = loaded("book 10 2 2;limit 3;costs 999 0 1 500 60 7;para 5 6 4 5;heading page 8 8;para 4 5;");
        due("three paragraphs", summed(x), x::checksum);
        x.fix(0, 2);
        x.fix(1, 0);
        due("fixed", summed(x), x::checksum);
        WidowWatch most = new WidowWatch();
        feed(most, "book 10 2 9;limit 9;costs 999 999 999 999 999 999;");
        for (int p = 0; p < 16; p++) {
            most.insert(p, 30, 1);
            most.fix(p, 2);
        }
        due("480 lines", summed(most), most::checksum);
        most.remove(0);
        due("asked again", summed(most), most::checksum);
    }

    private static BigInteger sum;

    private static void add(int n) {
        sum = sum.multiply(BigInteger.valueOf(31)).add(BigInteger.valueOf(n));
    }

    /** The sum of what the object tells, in numbers without bound, and cut to a long at the end alone. */
    private static long summed(WidowWatch x) {
        sum = BigInteger.ZERO;
        for (int what = 0; what <= 12; what++) {
            add(x.state(what));
        }
        for (int p = 0; p < x.state(4); p++) {
            for (int what = 0; what <= 7; what++) {
                add(x.paragraph(p, what));
            }
        }
        for (boolean isBest : new boolean[] {false, true}) {
            for (int what = 0; what <= 6; what++) {
                add(x.plan(isBest, what));
            }
            for (int page = 0; page < x.plan(isBest, 1); page++) {
                for (int what = 0; what <= 4; what++) {
                    add(x.page(isBest, page, what));
                }
            }
        }
        return sum.longValue();
    }
}
