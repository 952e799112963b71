/** For each promise of the document: ordinary inputs, the edges that it names, and wrong inputs. */
public final class PromisesTest extends Answers {
    public static void main(String[] args) {
        newObject();
        append();
        load();
        firstErrors();
        errorOffset();
        state();
        paragraph();
        word();
        lineLength();
        plan();
        bestPlan();
        page();
        pageOf();
        help();
        saved();
        fullness();
        fix();
        begin();
        insert();
        remove();
        retouch();
        setCost();
        undo();
        checksum();
        largest();
        endTests("PromisesTest");
    }

    private static void newObject() {
        promise("1 a new object");
        WidowWatch x = new WidowWatch();
        row("state", new int[] {40, 10, 4, 1, 0, 0, 0, 1, 1, 2, 20, 10, 30}, x::state);
        row("plain plan", new int[7], what -> x.plan(false, what));
        row("best plan", new int[7], what -> x.plan(true, what));
        due("errorOffset", -1, x::errorOffset);
        due("undo", -1, x::undo);
        due("load of what the buffer has not", NO_ARGUMENT, () -> x.load(1));
        due("load of nothing", WidowWatch.SYNTAX_ERROR, () -> x.load(0));
        due("append to an empty buffer", 20, () -> x.append(0, 0, 0, 0, 0));
        due("SYNTAX_ERROR", -2, () -> WidowWatch.SYNTAX_ERROR);
        due("OUT_OF_RANGE", -3, () -> WidowWatch.OUT_OF_RANGE);
        due("TOO_MANY", -4, () -> WidowWatch.TOO_MANY);
    }

    private static void append() {
        promise("2 append");
        WidowWatch x = new WidowWatch();
        for (int length = 20; length <= 700; length += 20) {
            due("append " + length, length, () -> x.append(0x626f6f6b, 0x31302032, 0x20303b20, 0x20202020, -1));
        }
        due("append beyond 700", -1, () -> x.append(0, 0, 0, 0, 0));
        due("load 701", NO_ARGUMENT, () -> x.load(701));
        due("load 16", 0, () -> x.load(16));
        due("the buffer is empty then", 20, () -> x.append(0x626f6f6b, 0x31302032, 0x20303b20, 0x20202020, -1));
        due("load 17", WidowWatch.SYNTAX_ERROR, () -> x.load(17));
        due("the byte 255", 16, x::errorOffset);
        due("each argument in its place", 20, () -> x.append(0x626f6f6b, 0x31312033, 0x20313b20, 0x3b206c69, 0));
        due("load 11", 0, () -> x.load(11));
        row("state", new int[] {11, 3, 1}, x::state);
    }

    private static void load() {
        promise("3 load");
        WidowWatch x = new WidowWatch();
        due("costs and limit anywhere", 2, () -> feed(x, "book 30 20 9;para 1 21;costs 999 0 1 2 3 4;heading page 7;"
                + "limit 9;"));
        row("state", new int[] {30, 20, 9, 9, 2, 3, 0, 999, 0, 1, 2, 3, 4}, x::state);
        row("paragraph 0", new int[] {2, 1, 1, 2, 0, 0, -1, 0}, what -> x.paragraph(0, what));
        row("paragraph 1", new int[] {1, 1, 1, 1, 1, 1, -1, 0}, what -> x.paragraph(1, what));
        x.fix(0, 1);
        due("an error changes nothing", WidowWatch.SYNTAX_ERROR, () -> feed(x, "book 40 2 0;para 1 2 3;x"));
        row("state after an error", new int[] {30, 20, 9, 9, 2, 3, 1, 999, 0, 1, 2, 3, 4}, x::state);
        due("all data are replaced", 1, () -> feed(x, "book 20 5 3;heading 17;"));
        row("state then", new int[] {20, 5, 3, 1, 1, 1, 0, 1, 1, 2, 20, 10, 30}, x::state);
        due("no paragraph", 0, () -> feed(x, "book 10 2 0;"));
        due("few spaces", 2, () -> feed(x, "book10 2 0;para3 4;heading page5;limit0;"));
        due("many spaces", 1, () -> feed(x, "   book  10   2 0  ;  para   page  3  4 ;   "));
        due("leading zeros", 1, () -> feed(x, "book 00000000000000000000060 040 0009;para 0000000000000051;"));
        row("of them", new int[] {60, 40, 9}, x::state);
        due("16 paragraphs", 16, () -> feed(x, "book 10 2 0;" + "para 10;".repeat(16)));
        due("30 words", 1, () -> feed(x, "book 10 2 0;para" + THIRTY + ";"));
        due("words", 30, () -> x.paragraph(0, 0));
        due("700 bytes", 0, () -> feed(x, "book 10 2 0;" + " ".repeat(688)));

        x.append(0x626f6f6b, 0x31302032, 0x20303b20, 0x20202020, 0);
        due("negative", NO_ARGUMENT, () -> x.load(-1));
        due("least int", NO_ARGUMENT, () -> x.load(Integer.MIN_VALUE));
        due("beyond the buffer", NO_ARGUMENT, () -> x.load(21));
        due("greatest int", NO_ARGUMENT, () -> x.load(Integer.MAX_VALUE));
        due("the buffer is unchanged", 0, () -> x.load(11));
        due("empty afterwards", NO_ARGUMENT, () -> x.load(1));
        feed(x, "x");
        due("empty after an error too", NO_ARGUMENT, () -> x.load(1));
    }

    private static void firstErrors() {
        promise("3 and 4, first errors");
        error("", -2, 0);
        error("   ", -2, 3);
        error("book", -2, 4);
        error("book 10 2 0", -2, 11);
        error("book 10 2 0  ", -2, 13);
        error("boo 10 2 0;", -2, 0);
        error(" books 10 2 0;", -2, 1);
        error("Book 10 2 0;", -2, 0);
        error("cook 10 2 0;", -2, 0);
        error("bool 10 2 0;", -2, 0);
        error("book 9 2 0;", -3, 5);
        error("book 61 1 0;", -3, 5);
        error("book 10 1 0;", -3, 8);
        error("book 10 41 0;", -3, 8);
        error("book 10 2 10;", -3, 10);
        error("book 4294967306 2 0;", -3, 5);
        error("book 10 2 18446744073709551616;", -3, 10);
        error("book 10 2 0 0;", -2, 12);
        error("book 10 ; 0;", -2, 8);
        error("book 10 2 -1;", -2, 10);
        error("book 10 2 0;;", -2, 12);
        error("book 10 2 0; ;", -2, 13);
        error("book 10 2 0;7;", -2, 12);
        error("book 10 2 0;\tpara 1;", -2, 12);
        error("book 10 2 0;\0", -2, 12);
        error("\0", -2, 0);
        error("book 10 2 0;\u00ff", -2, 12);
        error("book 10 2 0;\npara 1;", -2, 12);
        error("book 10 2 0;par\u00e1 1;", -2, 12);
        error("book 10 2 0;para\u00e9;", -2, 16);
        error("book 10 2 0;paras 1;", -2, 12);
        error("book 10 2 0;parapage 1;", -2, 12);
        error("book 10 2 0;paraz 1;", -2, 12);
        error("book 10 2 0;para{1;", -2, 16);
        error("book 10 2 0;para`1;", -2, 16);
        error("book 10 2 0;para/1;", -2, 16);
        error("book 10 2 0;para:1;", -2, 16);
        error("book 10 2 0;para pages 1;", -2, 17);
        error("book 10 2 0;para page page 1;", -2, 22);
        error("book 10 2 0;para 1 page;", -2, 19);
        error("book 10 2 0;para;", -2, 16);
        error("book 10 2 0;para page;", -2, 21);
        error("book 10 2 0;para 1", -2, 18);
        error("book 10 2 0;para 1 2,3;", -2, 20);
        error("book 10 2 0;para 0;", -3, 17);
        error("book 10 2 3;para 7 8;", -3, 19);
        error("book 10 2 0;heading 11 x", -3, 20);
        error("book 10 2 0;limit;", -2, 17);
        error("book 10 2 0;limit 10;", -3, 18);
        error("book 10 2 0;limit 1 1;", -2, 20);
        error("book 10 2 0;limit 1; limit 10;", -2, 21);
        error("book 10 2 0;costs 1 1 1 1 1;", -2, 27);
        error("book 10 2 0;costs 1 1 1 1 1 1 1;", -2, 30);
        error("book 10 2 0;costs 1 1 1 1 1 1000;", -3, 28);
        error("book 10 2 0;costs 1 1 1 1 1 1;para 1;costs 1000;", -2, 37);
        error("book 10 2 0;book 10 2 0;", -2, 12);
        error("book 10 2 0;" + "para 1;".repeat(16) + "heading", -4, 124);
        error("book 10 2 0;" + "para 1;".repeat(16) + " paras 0;", -2, 125);
        error("book 10 2 0;para" + THIRTY + " 1;", -4, 77);
        error("book 10 2 0;para" + THIRTY + " 11;", -3, 77);
        error("book 10 2 0;para" + THIRTY + " 0 x", -3, 77);
        error("book 10 2 0;para" + THIRTY + " x", -2, 77);
    }

    private static void errorOffset() {
        promise("4 errorOffset");
        WidowWatch x = new WidowWatch();
        due("without load", -1, x::errorOffset);
        due("a load that throws", NO_ARGUMENT, () -> x.load(1));
        due("none then", -1, x::errorOffset);
        feed(x, "book 10 2 0;para 11;");
        due("of an error", 17, x::errorOffset);
        due("a load that throws", NO_ARGUMENT, () -> x.load(-1));
        due("still that of the load before", 17, x::errorOffset);
        x.setCost(0, 1);
        x.undo();
        due("changes do not matter", 17, x::errorOffset);
        feed(x, "book 10 2 0;");
        due("none after a good load", -1, x::errorOffset);
        x.undo();
        due("undo does not matter", -1, x::errorOffset);
    }

    private static void state() {
        promise("5 state");
        WidowWatch x = loaded("book 50 30 7;limit 5;costs 11 12 13 14 15 16;para 1 2;heading 3;para 4 5 6;");
        x.fix(0, 0);
        x.fix(2, 2);
        row("state", new int[] {50, 30, 7, 5, 3, 6, 2, 11, 12, 13, 14, 15, 16}, x::state);
        due("-1", NO_ARGUMENT, () -> x.state(-1));
        due("13", NO_ARGUMENT, () -> x.state(13));
        due("least int", NO_ARGUMENT, () -> x.state(Integer.MIN_VALUE));
    }

    private static void paragraph() {
        promise("6 paragraph");
        // Line ends: 10 fit in a normal line, 12 in a tight one, 8 in a loose one.
        WidowWatch x = loaded("book 10 2 2;para 5 6 8;heading 4 5;para page 4 3;heading page 8 8;");
        x.fix(3, 2);
        row("paragraph 0", new int[] {3, 3, 2, 3, 0, 0, -1}, what -> x.paragraph(0, what));
        row("paragraph 1", new int[] {2, 1, 1, 2, 1, 0, -1}, what -> x.paragraph(1, what));
        row("paragraph 2", new int[] {2, 1, 1, 1, 0, 1, -1}, what -> x.paragraph(2, what));
        row("paragraph 3", new int[] {2, 2, 2, 2, 1, 1, 2, 2}, what -> x.paragraph(3, what));
        due("paragraph -1", NO_INDEX, () -> x.paragraph(-1, 0));
        due("paragraph 4", NO_INDEX, () -> x.paragraph(4, 8));
        due("what -1", NO_ARGUMENT, () -> x.paragraph(3, -1));
        due("what 8", NO_ARGUMENT, () -> x.paragraph(0, 8));
        due("greatest ints", NO_INDEX, () -> x.paragraph(Integer.MAX_VALUE, Integer.MAX_VALUE));
    }

    private static void word() {
        promise("7 word");
        WidowWatch x = loaded("book 10 2 2;para 5 6 8;heading 4;");
        row("words", new int[] {5, 6, 8}, k -> x.word(0, k));
        due("the next one's", 4, () -> x.word(1, 0));
        due("k -1", NO_ELEMENT, () -> x.word(0, -1));
        due("k 3", NO_ELEMENT, () -> x.word(0, 3));
        due("k 1", NO_ELEMENT, () -> x.word(1, 1));
        due("paragraph 2", NO_INDEX, () -> x.word(2, -1));
        due("paragraph -1", NO_INDEX, () -> x.word(-1, 0));
    }

    private static void lineLength() {
        promise("8 lineLength");
        WidowWatch x = loaded("book 10 2 2;para 1 1;para 5 4 1 8 1 1 8;");
        row("normal", new int[] {10, 10, 3, 8}, line -> x.lineLength(1, 0, line));
        row("tight", new int[] {12, 12, 8}, line -> x.lineLength(1, 1, line));
        row("loose", new int[] {5, 6, 8, 3, 8}, line -> x.lineLength(1, 2, line));
        due("two words and their space", 3, () -> x.lineLength(0, 0, 0));
        due("line 4", NO_ELEMENT, () -> x.lineLength(1, 0, 4));
        due("line 4", 8, () -> x.lineLength(1, 2, 4));
        due("line 5", NO_ELEMENT, () -> x.lineLength(1, 2, 5));
        due("line -1", NO_ELEMENT, () -> x.lineLength(1, 1, -1));
        due("setting -1", NO_ARGUMENT, () -> x.lineLength(1, -1, -1));
        due("setting 3", NO_ARGUMENT, () -> x.lineLength(0, 3, 0));
        due("paragraph 2", NO_INDEX, () -> x.lineLength(2, 3, 0));
        due("paragraph -1", NO_INDEX, () -> x.lineLength(-1, 0, 0));
    }

    private static void plan() {
        promise("9 plan");
        // One line, then four on pages of two: an orphan and a widow in the plain plan.
        WidowWatch lines = loaded("book 10 2 0;para 8;para 8 8 8 8;");
        row("plain", new int[] {30, 3, 1, 1, 0, 0, 5}, what -> lines.plan(false, what));
        row("best", new int[] {2, 3, 0, 0, 0, 1, 5}, what -> lines.plan(true, what));
        // The second line of two is the last one too.
        WidowWatch both = loaded("book 10 2 0;limit 0;para 8;para 8 8;");
        row("widow and orphan", new int[] {30, 2, 1, 1, 0, 0, 3}, what -> both.plan(false, what));
        row("likewise", new int[] {30, 2, 1, 1, 0, 0, 3}, what -> both.plan(true, what));
        // A paragraph of one line is neither.
        WidowWatch widows = loaded("book 10 2 0;limit 0;para 8 8 8;para 8 8;");
        row("two widows", new int[] {50, 3, 2, 1, 0, 0, 5}, what -> widows.plan(false, what));
        WidowWatch single = loaded("book 10 2 0;limit 0;para 8 8;para 8;");
        row("one line", new int[] {0, 2, 0, 0, 0, 0, 3}, what -> single.plan(false, what));
        WidowWatch heading = loaded("book 10 2 0;para 5;heading 5;para 5;");
        row("heading at the foot", new int[] {30, 2, 0, 0, 1, 0, 3}, what -> heading.plan(false, what));
        row("heading moved", new int[] {2, 2, 0, 0, 0, 1, 3}, what -> heading.plan(true, what));
        // The page must end behind the heading; its missing lines cost nothing, but are counted.
        WidowWatch forced = loaded("book 10 5 0;heading page 5;heading page 5;para page 5;");
        row("forced, plain", new int[] {60, 3, 0, 0, 2, 8, 3}, what -> forced.plan(false, what));
        row("forced, best", new int[] {60, 3, 0, 0, 2, 8, 3}, what -> forced.plan(true, what));
        // Only the first line behind a heading counts, and a heading behind a heading too.
        WidowWatch inside = loaded("book 10 2 0;limit 0;heading 5;para 5 5 5 5;");
        row("behind the first line", new int[] {30, 3, 1, 1, 0, 0, 5}, what -> inside.plan(false, what));
        WidowWatch twice = loaded("book 10 2 0;limit 0;heading 5 5;heading 5 5 5;");
        row("two headings", new int[] {50, 3, 1, 0, 1, 0, 5}, what -> twice.plan(false, what));
        // Tight lines cost 5 each, loose ones 7, in the best plan alone.
        WidowWatch settings = loaded("book 10 5 2;costs 5 7 0 0 0 0;para 5 6 8;para 8 8;para 8;");
        settings.fix(0, 1);
        settings.fix(1, 2);
        row("settings, plain", new int[] {0, 2, 0, 0, 0, 0, 6}, what -> settings.plan(false, what));
        row("settings, best", new int[] {24, 1, 0, 0, 0, 0, 5}, what -> settings.plan(true, what));
        due("-1", NO_ARGUMENT, () -> lines.plan(true, -1));
        due("7", NO_ARGUMENT, () -> lines.plan(false, 7));
    }

    private static void bestPlan() {
        promise("9, which plan is best");
        // The widow costs 20, two tight lines 20: the smaller setting is ahead.
        WidowWatch tie = loaded("book 10 2 2;limit 0;costs 10 10 2 20 10 30;para 5 6 8;");
        due("costs of the tie", 20, () -> tie.plan(true, 0));
        due("normal is ahead", 0, () -> tie.paragraph(0, 7));
        tie.setCost(0, 9);
        due("tight is cheaper", 1, () -> tie.paragraph(0, 7));
        due("by 2", 18, () -> tie.plan(true, 0));
        // Without costs the page goes on as long as it can.
        WidowWatch free = loaded("book 10 3 0;limit 9;costs 0 0 0 0 0 0;para 8 8 8 8;para 8;");
        row("pages of three and two", new int[] {3, 2}, page -> free.page(true, page, 0));
        // To end ahead of the second line costs as much as ahead of the third: going on is ahead.
        WidowWatch late = loaded("book 10 4 0;limit 9;costs 0 0 0 20 0 0;para 8 8 8 8 8;");
        row("first to go on", new int[] {3, 2}, page -> late.page(true, page, 0));
        // The loose setting alone, with one line more, keeps the heading's paragraph on its page.
        WidowWatch loose = loaded("book 10 2 2;limit 0;para 4 5;heading 8;para 8;");
        due("loose", 2, () -> loose.paragraph(0, 7));
        due("costs of loose", 2, () -> loose.plan(true, 0));
        // A page can end with not more than limit lines less than the height.
        WidowWatch limit = loaded("book 10 4 0;limit 2;costs 0 0 1 100 100 100;para 8;heading 8;para 8 8 8;");
        due("one line is too short", 4, () -> limit.page(true, 0, 0));
        due("two lines are not", 2, () -> loaded("book 10 4 0;limit 2;costs 0 0 1 100 100 100;para 8;para 8;"
                + "para 8 8 8;").page(true, 0, 0));
        due("but with limit 1", 4, () -> loaded("book 10 4 0;limit 1;costs 0 0 1 100 100 100;para 8;para 8;"
                + "para 8 8 8;").page(true, 0, 0));
        WidowWatch wider = loaded("book 10 4 0;limit 3;costs 0 0 1 100 100 100;para 8;heading 8;para 8 8 8;");
        due("with limit 3 it is not", 1, () -> wider.page(true, 0, 0));
        due("with limit 3 it costs", 3, () -> wider.plan(true, 0));
        // To end early would keep B's second line from the head of the page, but cost more behind it.
        WidowWatch ahead = loaded("book 10 2 0;para 8;para 8 8 8;");
        row("what lies behind the page", new int[] {10, 2, 0, 1, 0, 0, 4}, what -> ahead.plan(true, what));
        // Missing lines ahead of a paragraph that begins no page cost more than the heading at the foot.
        WidowWatch foot = loaded("book 10 2 0;costs 1 1 2 20 10 1;para 5;heading 5;para 5;");
        row("heading at the foot", new int[] {1, 2, 0, 0, 1, 0, 3}, what -> foot.plan(true, what));
        WidowWatch first = loaded("book 10 3 0;costs 1 1 2 20 10 90;heading 8 8 8;para 8 8;");
        row("the first paragraph's heading", new int[] {22, 2, 1, 0, 0, 1, 5}, what -> first.plan(true, what));
        // The last paragraph that there can be, and the last line of it.
        WidowWatch full = loaded("book 10 2 2;limit 0;para 8 8;" + "para 8;".repeat(14) + "para 5 6 8;");
        due("16 paragraphs", 2, () -> full.plan(true, 0));
        due("the 16th", 1, () -> full.paragraph(15, 7));
        WidowWatch long30 = loaded("book 10 29 0;para" + " 8".repeat(30) + ";");
        row("30 lines", new int[] {28, 2}, page -> long30.page(true, page, 0));
        // Nothing of an earlier plan is left behind.
        WidowWatch gone = loaded("book 10 2 0;costs 0 0 1 0 0 50;heading 8 8;para 8;");
        due("with the paragraph behind the heading", 1, () -> gone.plan(true, 0));
        gone.remove(1);
        row("without it", new int[] {0, 1, 0, 0, 0, 0, 2}, what -> gone.plan(true, what));
        // The first line of the book ends no page, whatever it begins.
        due("first begins", 1, () -> loaded("book 10 2 0;para page 8;").plan(true, 1));
    }

    private static void page() {
        promise("10 page");
        WidowWatch x = loaded("book 10 2 0;para 8;para 8 8 8 8;");
        row("plain 0", new int[] {2, 0, 0, 0, 0}, what -> x.page(false, 0, what));
        row("plain 1", new int[] {2, 1, 1, 10, 0}, what -> x.page(false, 1, what));
        row("plain 2", new int[] {1, 1, 3, 20, 0}, what -> x.page(false, 2, what));
        row("best 0", new int[] {1, 0, 0, 0, 2}, what -> x.page(true, 0, what));
        row("best 1", new int[] {2, 1, 0, 0, 0}, what -> x.page(true, 1, what));
        row("best 2", new int[] {2, 1, 2, 0, 0}, what -> x.page(true, 2, what));
        WidowWatch forced = loaded("book 10 5 0;heading 5;para page 5;para 5;");
        row("forced 0", new int[] {1, 0, 0, 0, 0}, what -> forced.page(true, 0, what));
        row("forced 1", new int[] {2, 1, 0, 30, 0}, what -> forced.page(true, 1, what));
        WidowWatch longer = loaded("book 10 2 0;para 8;para page 8 8 8 8;");
        row("ahead of a begin", new int[] {1, 0, 0, 0, 0}, what -> longer.page(false, 0, what));
        WidowWatch within = loaded("book 10 3 0;para page 8 8 8 8;");
        row("within a paragraph that begins a page", new int[] {2, 0, 0, 0, 2}, what -> within.page(true, 0, what));
        WidowWatch next = loaded("book 10 2 0;limit 1;costs 0 0 5 0 0 99;para 8;heading 8;para 8 8;");
        row("ahead of a paragraph that does not", new int[] {1, 0, 0, 0, 5}, what -> next.page(true, 0, what));
        due("page -1", NO_INDEX, () -> x.page(true, -1, 5));
        due("page 3", NO_INDEX, () -> x.page(false, 3, -1));
        due("page 2 of the plan that is asked", NO_INDEX, () -> forced.page(false, 2, 0));
        due("what -1", NO_ARGUMENT, () -> x.page(true, 0, -1));
        due("what 5", NO_ARGUMENT, () -> x.page(false, 2, 5));
        due("no pages", NO_INDEX, () -> new WidowWatch().page(false, 0, 0));
    }

    private static void pageOf() {
        promise("11 pageOf");
        WidowWatch x = loaded("book 10 2 0;para 8;para 8 8 8 8;");
        row("plain", new int[] {0, 1, 1, 2}, line -> x.pageOf(false, 1, line));
        row("best", new int[] {1, 1, 2, 2}, line -> x.pageOf(true, 1, line));
        due("paragraph 0", 0, () -> x.pageOf(true, 0, 0));
        due("line 4", NO_ELEMENT, () -> x.pageOf(true, 1, 4));
        due("line 1", NO_ELEMENT, () -> x.pageOf(false, 0, 1));
        due("line -1", NO_ELEMENT, () -> x.pageOf(false, 0, -1));
        due("paragraph 2", NO_INDEX, () -> x.pageOf(true, 2, -1));
        due("paragraph -1", NO_INDEX, () -> x.pageOf(true, -1, 0));
        // Tight it has a line less, in the best plan alone.
        WidowWatch tight = loaded("book 10 2 2;para 5 6 8;");
        tight.fix(0, 1);
        due("plain line 2", 1, () -> tight.pageOf(false, 0, 2));
        due("best line 2", NO_ELEMENT, () -> tight.pageOf(true, 0, 2));
        due("best line 1", 0, () -> tight.pageOf(true, 0, 1));
    }

    private static void help() {
        promise("12 help");
        WidowWatch x = loaded("book 10 2 2;para 5 6 8;");
        due("no page 1 any more", 1, () -> x.help(1));
        due("the first page", -2, () -> x.help(0));
        due("page 2", NO_INDEX, () -> x.help(2));
        due("page -1", NO_INDEX, () -> x.help(-1));
        x.fix(0, 0);
        due("whatever it is fixed to", 1, () -> x.help(1));
        // The last paragraph's three lines stay three; one line less or more above helps, the nearest first.
        due("the nearest", 11, () -> loaded("book 10 2 2;para 5 6;para 5 6;para 8 8 8;").help(3));
        due("above", 1, () -> loaded("book 10 2 2;para 5 6;para 8;para 8;para 8 8 8;").help(3));
        due("loose", 2, () -> loaded("book 10 2 2;para 4 5;para 8;para 8 8 8;").help(2));
        due("the smaller setting", 1, () -> loaded("book 10 2 2;para 5 6 4 5;para 8 8;").help(2));
        due("not above a begin", -1, () -> loaded("book 10 2 2;para 5 6;para page 8;para 8;para 8 8 8;").help(3));
        due("the begin itself", 11, () -> loaded("book 10 2 2;para 5 6;para page 5 6;para 8 8 8;").help(3));
        due("of the widow's own", -1, () -> loaded("book 10 2 2;para 5 6;para page 8 8 8;").help(2));
        due("none helps", -1, () -> loaded("book 10 2 2;para 8 8 8;").help(1));
        due("an orphan alone", -2, () -> loaded("book 10 2 2;para 8;para 8 8 8;").help(1));
        // Another widow at the head of the page is no help: the page must not begin with any.
        due("any paragraph's last line", -1, () -> loaded("book 10 3 2;para 4 5 4 5;para 8 8;").help(1));
        due("no pages", NO_INDEX, () -> new WidowWatch().help(0));
    }

    private static void saved() {
        promise("13 saved");
        WidowWatch x = loaded("book 10 2 2;para 5 6 8;");
        due("20 less 2", 18, x::saved);
        x.fix(0, 2);
        due("20 less three loose lines, an orphan and a missing line", 5, x::saved);
        WidowWatch fixed = loaded("book 10 2 2;costs 7 9 0 0 0 0;para 8 8;");
        fixed.fix(0, 2);
        due("two loose lines too much", -18, fixed::saved);
        due("no paragraphs", 0, () -> new WidowWatch().saved());
        due("nothing", 0, () -> loaded("book 10 2 2;para 8;").saved());
    }

    private static void fullness() {
        promise("14 fullness");
        due("no pages", 0.0f, () -> new WidowWatch().fullness());
        due("three of seven", 3.0f / 7.0f, () -> loaded("book 10 7 0;para 8 8 8;").fullness());
        due("of the best plan", 1.0f, () -> loaded("book 10 2 2;para 5 6 8;").fullness());
        due("two pages", 5.0f / 6.0f, () -> loaded("book 10 3 0;para 8 8 8 8 8;").fullness());
    }

    private static void fix() {
        promise("15 fix");
        WidowWatch x = loaded("book 10 2 2;para 8;para 5 6 8;");
        due("was free", -1, () -> x.fix(1, 2));
        due("setting", 2, () -> x.paragraph(1, 7));
        due("the other is free", -1, () -> x.paragraph(0, 6));
        due("was loose", 2, () -> x.fix(1, 1));
        due("was tight", 1, () -> x.fix(1, 0));
        due("setting", 0, () -> x.paragraph(1, 7));
        due("was normal", 0, () -> x.fix(1, -1));
        due("free again", -1, () -> x.paragraph(1, 6));
        due("setting -2", NO_ARGUMENT, () -> x.fix(0, -2));
        due("setting 3", NO_ARGUMENT, () -> x.fix(1, 3));
        due("paragraph 2", NO_INDEX, () -> x.fix(2, 3));
        due("paragraph -1", NO_INDEX, () -> x.fix(-1, 0));
        due("changes", 4, x::undo);
    }

    private static void begin() {
        promise("16 begin");
        WidowWatch x = loaded("book 10 4 0;para 8;para 8;");
        due("did not", false, () -> x.begin(1, true));
        due("pages", 2, () -> x.plan(false, 1));
        due("pages", 2, () -> x.plan(true, 1));
        due("did", true, () -> x.begin(1, true));
        due("did still", true, () -> x.begin(1, false));
        due("pages", 1, () -> x.plan(true, 1));
        due("did not any more", false, () -> x.begin(1, false));
        due("paragraph 2", NO_INDEX, () -> x.begin(2, true));
        due("paragraph -1", NO_INDEX, () -> x.begin(-1, true));
        due("changes", 4, x::undo);
    }

    private static void insert() {
        promise("17 insert");
        WidowWatch x = loaded("book 10 2 2;heading page 1;heading page 2;");
        x.fix(0, 1);
        x.fix(1, 2);
        due("between", 3, () -> x.insert(1, 30, 8));
        row("it", new int[] {30, 30, 30, 30, 0, 0, -1, 0}, what -> x.paragraph(1, what));
        row("its words", "8".repeat(30).chars().map(c -> c - '0').toArray(), k -> x.word(1, k));
        row("the one behind", new int[] {1, 1, 1, 1, 1, 1, 2, 2}, what -> x.paragraph(2, what));
        due("its word", 2, () -> x.word(2, 0));
        due("at the end", 4, () -> x.insert(3, 1, 1));
        due("at the start", 5, () -> x.insert(0, 2, 3));
        due("words", 35, () -> x.state(5));
        due("at -1", NO_ARGUMENT, () -> x.insert(-1, 1, 1));
        due("at 6", NO_ARGUMENT, () -> x.insert(6, 1, 1));
        due("words 0", NO_ARGUMENT, () -> x.insert(0, 0, 1));
        due("words 31", NO_ARGUMENT, () -> x.insert(0, 31, 1));
        due("length 0", NO_ARGUMENT, () -> x.insert(0, 1, 0));
        due("length 9", NO_ARGUMENT, () -> x.insert(0, 1, 9));
        for (int count = 6; count <= 16; count++) {
            int then = count;
            due("insert " + count, then, () -> x.insert(then - 1, 1, 1));
        }
        due("a 17th", NO_STATE, () -> x.insert(16, 1, 1));
        due("a 17th with a wrong parameter", NO_ARGUMENT, () -> x.insert(17, 1, 1));
        due("nothing changed", 16, () -> x.state(4));
        due("in a new object", 1, () -> new WidowWatch().insert(0, 1, 36));
    }

    private static void remove() {
        promise("18 remove");
        WidowWatch x = loaded("book 10 2 2;para 1;heading page 2 2;para 3 3 3;");
        x.fix(1, 2);
        due("words", 1, () -> x.remove(0));
        row("the next", new int[] {2, 1, 1, 1, 1, 1, 2, 2}, what -> x.paragraph(0, what));
        due("words of the last", 3, () -> x.remove(1));
        due("paragraph 1", NO_INDEX, () -> x.remove(1));
        due("paragraph -1", NO_INDEX, () -> x.remove(-1));
        due("words of the only one", 2, () -> x.remove(0));
        due("paragraph 0", NO_INDEX, () -> x.remove(0));
        due("pages", 0, () -> x.plan(true, 1));
    }

    private static void retouch() {
        promise("19 retouch");
        WidowWatch x = loaded("book 10 2 2;para 5 4 3;para 7;");
        due("another length", 3, () -> x.retouch(0, 1, 8));
        row("words", new int[] {5, 8, 3}, k -> x.word(0, k));
        due("taken out", 1, () -> x.retouch(0, 1, 0));
        row("words then", new int[] {5, 3}, k -> x.word(0, k));
        due("added", 2, () -> x.retouch(0, 2, 1));
        row("words at last", new int[] {5, 3, 1}, k -> x.word(0, k));
        due("the next paragraph", 7, () -> x.word(1, 0));
        due("k -1", NO_ARGUMENT, () -> x.retouch(0, -1, 1));
        due("k 4", NO_ARGUMENT, () -> x.retouch(0, 4, 1));
        due("length -1", NO_ARGUMENT, () -> x.retouch(0, 0, -1));
        due("length 9", NO_ARGUMENT, () -> x.retouch(0, 0, 9));
        due("length 0 behind the last", NO_ARGUMENT, () -> x.retouch(0, 3, 0));
        due("the only word", NO_STATE, () -> x.retouch(1, 0, 0));
        due("length 0 behind the only word", NO_ARGUMENT, () -> x.retouch(1, 1, 0));
        due("paragraph 2", NO_INDEX, () -> x.retouch(2, -1, -1));
        due("paragraph -1", NO_INDEX, () -> x.retouch(-1, 0, 1));
        due("changes", 3, x::undo);
        WidowWatch full = loaded("book 10 2 2;para" + THIRTY + ";");
        due("a 31st word", NO_STATE, () -> full.retouch(0, 30, 1));
        due("beyond", NO_ARGUMENT, () -> full.retouch(0, 31, 1));
        due("the 30th", 6, () -> full.retouch(0, 29, 1));
        due("one less", 6, () -> full.retouch(0, 29, 0));
        due("one more", 7, () -> full.retouch(0, 29, 8));
    }

    private static void setCost() {
        promise("20 setCost");
        WidowWatch x = new WidowWatch();
        row("before", new int[] {1, 1, 2, 20, 10, 30}, which -> x.setCost(which, 990 + which));
        row("then", new int[] {990, 991, 992, 993, 994, 995}, which -> x.state(7 + which));
        due("999", 990, () -> x.setCost(0, 999));
        due("0", 999, () -> x.setCost(0, 0));
        due("cost -1", NO_ARGUMENT, () -> x.setCost(0, -1));
        due("cost 1000", NO_ARGUMENT, () -> x.setCost(5, 1000));
        due("which -1", NO_ARGUMENT, () -> x.setCost(-1, 1));
        due("which 6", NO_ARGUMENT, () -> x.setCost(6, 1));
        due("changes", 7, x::undo);
        // Each cost where it belongs.
        WidowWatch heading = loaded("book 10 2 0;limit 0;para 5;heading 5;para 5;");
        heading.setCost(5, 77);
        due("heading", 77, () -> heading.plan(true, 0));
        WidowWatch lines = loaded("book 10 2 0;limit 0;para 8;para 8 8 8 8;");
        lines.setCost(3, 500);
        lines.setCost(4, 7);
        due("widow and orphan", 507, () -> lines.plan(false, 0));
        WidowWatch shorter = loaded("book 10 2 0;para 8;para 8 8 8 8;");
        shorter.setCost(2, 9);
        due("short", 9, () -> shorter.plan(true, 0));
    }

    private static void undo() {
        promise("21 undo");
        WidowWatch x = loaded("book 10 2 2;para 5 6 8;para 3;");
        long first = x.checksum();
        due("load is a change", 0, x::undo);
        due("paragraphs", 0, () -> x.state(4));
        due("width", 40, () -> x.state(0));
        due("none to undo", -1, x::undo);

        WidowWatch y = loaded("book 10 2 2;para 5 6 8;para 3;");
        y.fix(0, 2);
        y.begin(1, true);
        y.insert(1, 2, 7);
        y.remove(0);
        y.retouch(0, 0, 1);
        y.setCost(3, 9);
        row("all six kinds", new int[] {6, 5, 4, 3, 2, 1}, i -> y.undo());
        due("as before", first, y::checksum);
        due("plan too", 1, () -> y.paragraph(0, 7));
        due("the load", 0, y::undo);

        WidowWatch z = new WidowWatch();
        for (int cost = 1; cost <= 9; cost++) {
            z.setCost(0, 100 + cost);
        }
        due("7 more", 7, z::undo);
        z.setCost(0, 50);
        row("down to the final one", new int[] {7, 6, 5, 4, 3, 2, 1, 0}, i -> z.undo());
        due("the first change is final", 101, () -> z.state(7));
        due("none", -1, z::undo);
        due("nothing changed", 101, () -> z.state(7));

        // Changes that change nothing, calls that throw and loads with an error.
        WidowWatch same = new WidowWatch();
        same.setCost(0, 1);
        due("a throw is no change", NO_ARGUMENT, () -> same.setCost(0, -1));
        feed(same, "x");
        same.append(0x626f6f6b, 0, 0, 0, 0);
        due("the same cost is a change", 0, same::undo);
        due("the buffer stays", 40, () -> same.append(0, 0, 0, 0, 0));
        due("the error offset too", 0, same::errorOffset);

        // Each of 8 kept books is its own.
        WidowWatch words = loaded("book 30 2 2;para 1;");
        for (int length = 2; length <= 9; length++) {
            words.retouch(0, length - 1, length);
        }
        for (int count = 8; count >= 1; count--) {
            int then = count;
            due("undo " + then, then - 1, words::undo);
            due("words " + then, then, () -> words.paragraph(0, 0));
        }
        due("the load is final", -1, words::undo);
    }

    private static void checksum() {
        promise("22 checksum");
        long empty = 0;
        for (int n : new int[] {40, 10, 4, 1, 0, 0, 0, 1, 1, 2, 20, 10, 30, 0, 0, 0, 0, 0, 0, 0, 0, 0, 0, 0, 0, 0, 0}) {
            empty = 31 * empty + n;
        }
        due("new object", empty, () -> new WidowWatch().checksum());
        long one = 0;
        for (int n : new int[] {10, 2, 0, 1, 1, 3, 1, 1, 1, 2, 20, 10, 30, 3, 3, 3, 3, 1, 0, 0, 0,
            20, 2, 1, 0, 0, 0, 3, 2, 0, 0, 0, 0, 1, 0, 2, 20, 0,
            12, 2, 0, 1, 0, 1, 3, 1, 0, 0, 0, 2, 2, 0, 1, 10, 0}) {
            one = 31 * one + n;
        }
        WidowWatch x = loaded("book 10 2 0;heading 8 8 8;");
        x.fix(0, 0);
        due("one paragraph", one, x::checksum);
        long tight = 0;
        for (int n : new int[] {10, 2, 2, 1, 1, 3, 0, 1, 1, 2, 20, 10, 30, 3, 3, 2, 3, 0, 0, -1, 1,
            20, 2, 1, 0, 0, 0, 3, 2, 0, 0, 0, 0, 1, 0, 2, 20, 0,
            2, 1, 0, 0, 0, 0, 2, 2, 0, 0, 0, 0}) {
            tight = 31 * tight + n;
        }
        due("a tight one", tight, () -> loaded("book 10 2 2;para 5 6 8;").checksum());
    }

    private static void largest() {
        promise("9 to 14, the largest books");
        WidowWatch high = new WidowWatch();
        feed(high, "book 60 40 9;limit 9;");
        WidowWatch low = new WidowWatch();
        feed(low, "book 60 2 0;limit 9;costs 0 0 0 999 999 999;");
        for (int p = 0; p < 16; p++) {
            high.insert(p, 30, 51);
            low.insert(p, 30, 60);
        }
        row("480 lines of 40", new int[] {0, 12, 0, 0, 0, 0, 480}, what -> high.plan(true, what));
        row("480 lines of 2", new int[] {0, 240, 0, 0, 0, 0, 480}, what -> low.plan(true, what));
        due("last page", 239, () -> low.pageOf(true, 15, 29));
        for (int p = 1; p < 16; p++) {
            low.begin(p, true);
        }
        low.retouch(0, 29, 0);
        due("a last line alone", 239, () -> low.pageOf(false, 15, 29));
        due("missing", 1, () -> low.plan(false, 5));
    }
}
