import java.util.function.Consumer;

/** The edges that the document's sentences name: the changing methods, their exceptions, and undo. */
public final class ChangeBoundariesTest extends Answers {
    private static final int[] OUTSIDE = {-1, Integer.MIN_VALUE, Integer.MAX_VALUE};
    private static final String BOOK = "book 10 2 2;limit 0;para 5 6 4 5;heading page 8 8;para 1;";
    private static final String SIXTEEN = "para 1;".repeat(16);

    public static void main(String[] args) {
        fix();
        begin();
        insert();
        insertThrows();
        remove();
        retouch();
        retouchThrows();
        setCost();
        everyChange();
        undoBoundaries();
        undoFinal();
        undoNothing();
        notAffected();
        severalExceptions();
        throwsChangeNothing();
        manyCalls();
        endTests("ChangeBoundariesTest");
    }

    /** Calls with paragraphs that are none; x has just loaded BOOK. */
    private static void noSuchParagraph(WidowWatch x, String name, Row call) {
        says("IndexOutOfBoundsException if there is no such paragraph");
        for (int p : OUTSIDE) {
            refused(x, name + " of " + p, NO_INDEX, () -> call.at(p));
        }
        refused(x, name + " of 3", NO_INDEX, () -> call.at(3));
        due("changes", 0, x::undo);
        refused(x, name + " of 0 where there is none", NO_INDEX, () -> call.at(0));
    }

    private static void fix() {
        promise("15 fix");
        says("Returns what it was fixed to before; -1 if it was free.");
        WidowWatch x = loaded(BOOK);
        row("from setting to setting", new int[] {-1, 0, 1, 2, -1, -1, 2, 0}, i -> x.fix(0,
                new int[] {0, 1, 2, -1, -1, 2, 0, 0}[i]));
        due("the last one is free", -1, () -> x.fix(2, 1));
        row("fixed to", new int[] {0, -1, 1}, p -> x.paragraph(p, 6));

        says("IllegalArgumentException if setting is out of range: 0 to 2; -1 to free it");
        refused(x, "setting 3", NO_ARGUMENT, () -> x.fix(0, 3));
        refused(x, "setting -2", NO_ARGUMENT, () -> x.fix(2, -2));
        refused(x, "least int", NO_ARGUMENT, () -> x.fix(0, Integer.MIN_VALUE));
        refused(x, "greatest int", NO_ARGUMENT, () -> x.fix(0, Integer.MAX_VALUE));
        due("9 changes and a load", 7, x::undo);

        WidowWatch y = loaded(BOOK);
        noSuchParagraph(y, "fix", p -> y.fix(p, 0));
        WidowWatch z = loaded(BOOK);
        noSuchParagraph(z, "fix to 3", p -> z.fix(p, 3));
    }

    private static void begin() {
        promise("16 begin");
        says("Returns whether it did.");
        WidowWatch x = loaded(BOOK);
        boolean[] set = {true, true, false, false};
        boolean[] did = {false, true, true, false};
        for (int i = 0; i < 4; i++) {
            int at = i;
            due("begin " + set[at], did[at], () -> x.begin(2, set[at]));
            due("what is told then", set[at] ? 1 : 0, () -> x.paragraph(2, 5));
        }
        due("the first one of the book", false, () -> x.begin(0, true));
        due("pages", 4, () -> x.plan(false, 1));
        due("one from the text", true, () -> x.begin(1, false));
        due("pages", 3, () -> x.plan(false, 1));
        due("6 changes and a load", 6, x::undo);
        due("as before", 1, () -> x.paragraph(1, 5));

        WidowWatch y = loaded(BOOK);
        noSuchParagraph(y, "begin", p -> y.begin(p, true) ? 1 : 0);
    }

    private static void insert() {
        promise("17 insert");
        says("its index then, 0 to the number of paragraphs");
        WidowWatch x = loaded(BOOK);
        x.fix(0, 2);
        due("at the end", 4, () -> x.insert(3, 2, 3));
        due("at the start", 5, () -> x.insert(0, 3, 4));
        due("between", 6, () -> x.insert(2, 4, 5));
        row("words", new int[] {3, 4, 4, 2, 1, 2}, p -> x.paragraph(p, 0));
        row("lengths", new int[] {4, 5, 5, 8, 1, 3}, p -> x.word(p, 0));
        row("headings", new int[] {0, 0, 0, 1, 0, 0}, p -> x.paragraph(p, 4));
        row("begin a page", new int[] {0, 0, 0, 1, 0, 0}, p -> x.paragraph(p, 5));
        row("fixed to", new int[] {-1, 2, -1, -1, -1, -1}, p -> x.paragraph(p, 6));

        says("Inserts a paragraph of words of one length, which is no heading, does not begin a page, and is free.");
        WidowWatch kinds = loaded("book 10 2 2;heading page 8 7 6;");
        kinds.fix(0, 1);
        kinds.insert(0, 30, 2);
        row("at the place of another one", new int[] {30, 10, 8, 10, 0, 0, -1}, what -> kinds.paragraph(0, what));
        row("its words", new int[] {2, 2, 2}, k -> kinds.word(0, new int[] {0, 15, 29}[k]));
        row("that one", new int[] {3, 3, 3, 3, 1, 1, 1, 1}, what -> kinds.paragraph(1, what));
        row("its words", new int[] {8, 7, 6}, k -> kinds.word(1, k));
        kinds.remove(1);
        kinds.insert(1, 1, 1);
        row("at the place of one that is removed", new int[] {1, 1, 1, 1, 0, 0, -1, 0},
                what -> kinds.paragraph(1, what));
        due("31st word of it", NO_ELEMENT, () -> kinds.word(1, 1));

        WidowWatch ahead = loaded("book 10 2 2;para 3;heading page" + THIRTY.substring(2) + " 7;");
        ahead.insert(0, 1, 2);
        row("the paragraphs behind it", new int[] {2, 3, 7}, p -> ahead.word(p, p == 2 ? 29 : 0));
        ahead.insert(2, 1, 4);
        ahead.insert(4, 1, 5);
        row("all of them", new int[] {2, 3, 4, 7, 5}, p -> ahead.word(p, p == 3 ? 29 : 0));

        says("words: 1 to 30; length: 1 to the width less the slack");
        due("least", 3, () -> kinds.insert(0, 1, 1));
        due("most", 4, () -> kinds.insert(0, 30, 8));
        row("its lines", new int[] {30, 30, 30}, setting -> kinds.paragraph(0, 1 + setting));
        due("a width of 60", 1, () -> loaded("book 60 2 0;").insert(0, 1, 60));
        due("61 in it", NO_ARGUMENT, () -> loaded("book 60 2 0;").insert(0, 1, 61));
        due("a slack of 9", 1, () -> loaded("book 10 2 9;").insert(0, 1, 1));
        due("2 in it", NO_ARGUMENT, () -> loaded("book 10 2 9;").insert(0, 1, 2));

        says("Returns the number of paragraphs then.");
        WidowWatch up = new WidowWatch();
        row("up to 16", new int[] {1, 2, 3, 4, 5, 6, 7, 8, 9, 10, 11, 12, 13, 14, 15, 16}, at -> up.insert(at, 1, 1));
    }

    private static void insertThrows() {
        promise("17 insert");
        WidowWatch x = loaded(BOOK);
        says("IllegalArgumentException if a parameter is out of range");
        refused(x, "at 4", NO_ARGUMENT, () -> x.insert(4, 1, 1));
        refused(x, "words 0", NO_ARGUMENT, () -> x.insert(0, 0, 1));
        refused(x, "words 31", NO_ARGUMENT, () -> x.insert(0, 31, 1));
        refused(x, "length 0", NO_ARGUMENT, () -> x.insert(0, 1, 0));
        refused(x, "length 9", NO_ARGUMENT, () -> x.insert(0, 1, 9));
        for (int odd : OUTSIDE) {
            refused(x, "at " + odd, NO_ARGUMENT, () -> x.insert(odd, 1, 1));
            refused(x, "words " + odd, NO_ARGUMENT, () -> x.insert(0, odd, 1));
            refused(x, "length " + odd, NO_ARGUMENT, () -> x.insert(0, 1, odd));
        }
        WidowWatch none = new WidowWatch();
        refused(none, "at 1 of none", NO_ARGUMENT, () -> none.insert(1, 1, 1));

        says("IllegalStateException if there are 16 paragraphs");
        WidowWatch full = loaded("book 10 2 2;" + SIXTEEN);
        refused(full, "a 17th at the start", NO_STATE, () -> full.insert(0, 1, 1));
        refused(full, "a 17th at the end", NO_STATE, () -> full.insert(16, 30, 8));
        refused(full, "a 17th behind the end", NO_ARGUMENT, () -> full.insert(17, 1, 1));
        refused(full, "a 17th without words", NO_ARGUMENT, () -> full.insert(0, 0, 1));
        refused(full, "a 17th of length 9", NO_ARGUMENT, () -> full.insert(0, 1, 9));
        full.remove(7);
        due("a 16th", 16, () -> full.insert(15, 1, 1));
        refused(full, "a 17th again", NO_STATE, () -> full.insert(16, 1, 1));
        due("changes", 2, full::undo);
    }

    private static void remove() {
        promise("18 remove");
        says("Returns the number of its words.");
        WidowWatch x = loaded("book 10 2 2;para 1;heading page 2 2;para" + THIRTY + ";para 4 4 4 4;");
        x.fix(1, 2);
        due("the last", 4, () -> x.remove(3));
        due("the first", 1, () -> x.remove(0));
        row("the next moves up", new int[] {2, 1, 1, 1, 1, 1, 2, 2}, what -> x.paragraph(0, what));
        due("its words", 2, () -> x.word(0, 1));
        due("30 words", 30, () -> x.remove(1));
        due("paragraphs", 1, () -> x.state(4));
        due("the only one", 2, () -> x.remove(0));
        row("state", new int[] {10, 2, 2, 1, 0, 0, 0}, x::state);
        refused(x, "of none", NO_INDEX, () -> x.remove(0));
        due("4 changes, a fix and a load", 5, x::undo);
        row("back again", new int[] {2, 1, 1, 1, 1, 1, 2, 2}, what -> x.paragraph(0, what));
        WidowWatch most = loaded("book 10 2 2;" + SIXTEEN);
        due("the 16th", 1, () -> most.remove(15));
        due("no 16th any more", NO_INDEX, () -> most.remove(15));
        for (int p = 0; p < 15; p++) {
            most.retouch(p, 0, p % 8 + 1);
            most.retouch(p, 1, (p + 3) % 8 + 1);
        }
        due("the first of 15", 2, () -> most.remove(0));
        row("all others move up", new int[] {2, 3, 4, 5, 6, 7, 8, 1, 2, 3, 4, 5, 6, 7}, p -> most.word(p, 0));
        row("and their last words", new int[] {5, 6, 7, 8, 1, 2, 3, 4, 5, 6, 7, 8, 1, 2}, p -> most.word(p, 1));
        WidowWatch costs = loaded("book 10 40 2;costs 5 7 0 0 0 0;para 1;para 8 8;");
        costs.fix(0, 1);
        costs.fix(1, 2);
        due("costs of both", 19, () -> costs.plan(true, 0));
        costs.remove(1);
        due("costs of the first", 5, () -> costs.plan(true, 0));
        costs.remove(0);
        due("costs of none", 0, () -> costs.plan(true, 0));

        WidowWatch y = loaded(BOOK);
        noSuchParagraph(y, "remove", y::remove);
    }

    private static void retouch() {
        promise("19 retouch");
        says("Gives a word another length; of length 0 the word is taken out; at the place behind the last word a word "
                + "is added.");
        WidowWatch x = loaded("book 10 2 2;para 1;para 5 4 3;para 7;");
        due("the first word, the greatest length", 2, () -> x.retouch(1, 0, 8));
        due("the last word, the least length", 2, () -> x.retouch(1, 2, 1));
        row("words", new int[] {8, 4, 1}, k -> x.word(1, k));
        due("behind the last", 3, () -> x.retouch(1, 3, 8));
        row("words", new int[] {8, 4, 1, 8}, k -> x.word(1, k));
        due("the first taken out", 2, () -> x.retouch(1, 0, 0));
        row("words", new int[] {4, 1, 8}, k -> x.word(1, k));
        due("the last taken out", 1, () -> x.retouch(1, 2, 0));
        row("words", new int[] {4, 1}, k -> x.word(1, k));
        due("no third word", NO_ELEMENT, () -> x.word(1, 2));
        row("the other paragraphs", new int[] {1, 7}, p -> x.word(2 * p, 0));
        row("their words", new int[] {1, 2, 1}, p -> x.paragraph(p, 0));
        due("one word left", 1, () -> x.retouch(1, 0, 0));
        due("it", 1, () -> x.word(1, 0));

        says("Returns the lines of the paragraph in the setting normal then.");
        WidowWatch fixed = loaded("book 10 2 2;para 5 6 4 5;");
        fixed.fix(0, 1);
        due("fixed to tight", 3, () -> fixed.retouch(0, 0, 5));
        fixed.fix(0, 2);
        due("fixed to loose", 3, () -> fixed.retouch(0, 0, 5));
        due("a line less", 2, () -> fixed.retouch(0, 0, 0));
        WidowWatch full = loaded("book 10 2 2;para" + " 8".repeat(29) + ";");
        due("the 30th word", 30, () -> full.retouch(0, 29, 8));
        due("another length of it", 29, () -> full.retouch(0, 29, 1));
        due("it is taken out", 29, () -> full.retouch(0, 29, 0));
    }

    private static void retouchThrows() {
        promise("19 retouch");
        WidowWatch x = loaded("book 10 2 2;para 5 4 3;para 7;para" + THIRTY + ";");
        says("IllegalArgumentException if k or length is out of range, or length is 0 behind the last word");
        refused(x, "k 4", NO_ARGUMENT, () -> x.retouch(0, 4, 1));
        refused(x, "k 31", NO_ARGUMENT, () -> x.retouch(2, 31, 1));
        refused(x, "length 9", NO_ARGUMENT, () -> x.retouch(0, 0, 9));
        refused(x, "0 behind the last", NO_ARGUMENT, () -> x.retouch(0, 3, 0));
        refused(x, "0 behind the only word", NO_ARGUMENT, () -> x.retouch(1, 1, 0));
        refused(x, "0 behind the 30th", NO_ARGUMENT, () -> x.retouch(2, 30, 0));
        for (int odd : OUTSIDE) {
            refused(x, "k " + odd, NO_ARGUMENT, () -> x.retouch(0, odd, 1));
            refused(x, "length " + odd, NO_ARGUMENT, () -> x.retouch(0, 0, odd));
            refused(x, "length " + odd + " behind the last", NO_ARGUMENT, () -> x.retouch(0, 3, odd));
        }

        says("IllegalStateException if the paragraph would have no word, or more than 30");
        refused(x, "the only word", NO_STATE, () -> x.retouch(1, 0, 0));
        refused(x, "a 31st word", NO_STATE, () -> x.retouch(2, 30, 1));
        refused(x, "a 31st word of the greatest length", NO_STATE, () -> x.retouch(2, 30, 8));
        refused(x, "a 31st word that is too long", NO_ARGUMENT, () -> x.retouch(2, 30, 9));
        due("the only word may have another length", 1, () -> x.retouch(1, 0, 8));
        due("the 30th may too", 6, () -> x.retouch(2, 29, 2));
        due("and be taken out", 6, () -> x.retouch(2, 29, 0));
        due("changes", 3, x::undo);

        WidowWatch y = loaded(BOOK);
        noSuchParagraph(y, "retouch", p -> y.retouch(p, 0, 1));
        WidowWatch z = loaded(BOOK);
        noSuchParagraph(z, "retouch of no word", p -> z.retouch(p, -1, -1));
    }

    private static void setCost() {
        promise("20 setCost");
        says("Returns the previous cost.");
        WidowWatch x = new WidowWatch();
        for (int which = 0; which < 6; which++) {
            int at = which;
            int usual = new int[] {1, 1, 2, 20, 10, 30}[which];
            due("least of " + at, usual, () -> x.setCost(at, 0));
            due("told", 0, () -> x.state(7 + at));
            due("greatest of " + at, 0, () -> x.setCost(at, 999));
            due("told", 999, () -> x.state(7 + at));
        }

        says("IllegalArgumentException if a parameter is out of range");
        refused(x, "which 6", NO_ARGUMENT, () -> x.setCost(6, 1));
        refused(x, "cost 1000", NO_ARGUMENT, () -> x.setCost(0, 1000));
        for (int odd : OUTSIDE) {
            refused(x, "which " + odd, NO_ARGUMENT, () -> x.setCost(odd, 1));
            refused(x, "cost " + odd, NO_ARGUMENT, () -> x.setCost(5, odd));
        }
        due("12 changes, of which 8 can be undone", 7, x::undo);
        due("the last one is back", 0, () -> x.state(12));
    }

    private static void everyChange() {
        promise("Terms, changes");
        says("each such call that does not throw an exception is a change, also if all data stay as they were.");
        String all = "book 40 10 4;para 3 3;";
        change("load of the same text", all, x -> feed(x, all));
        change("fix of a free one to free", all, x -> x.fix(0, -1));
        change("begin of one that does not", all, x -> x.begin(0, false));
        change("retouch to the same length", all, x -> x.retouch(0, 0, 3));
        change("setCost to the same cost", all, x -> x.setCost(5, 30));
        change("insert", all, x -> x.insert(1, 1, 1));
        change("remove", all, x -> x.remove(0));
        change("fix", all, x -> x.fix(0, 1));
        change("begin", all, x -> x.begin(0, true));
        change("retouch", all, x -> x.retouch(0, 2, 1));
        change("setCost", all, x -> x.setCost(5, 31));
        WidowWatch empty = new WidowWatch();
        due("the first load of what is there already", 0, () -> feed(empty, "book 40 10 4;"));
        due("is a change", 0, empty::undo);

        says("The changing methods are load (when it succeeds)");
        WidowWatch x = loaded(all);
        due("a load with an error", WidowWatch.SYNTAX_ERROR, () -> feed(x, "book"));
        due("a load that throws", NO_ARGUMENT, () -> x.load(1));
        due("only the first one", 0, x::undo);
        due("none", -1, x::undo);
    }

    private static void change(String name, String text, Consumer<WidowWatch> made) {
        WidowWatch x = loaded(text);
        String before = told(x);
        made.accept(x);
        due("undo of " + name, 1, x::undo);
        due("all that is told behind it", before, () -> told(x));
        due("undo of the load", 0, x::undo);
        due("undo of nothing", -1, x::undo);
    }

    private static void undoBoundaries() {
        promise("21 undo");
        says("The latest 8 changes can be undone, the latest one first");
        for (int changes = 1; changes <= 10; changes++) {
            WidowWatch x = new WidowWatch();
            for (int cost = 101; cost <= 100 + changes; cost++) {
                x.setCost(0, cost);
            }
            int kept = Math.min(changes, 8);
            for (int i = 1; i <= kept; i++) {
                int left = kept - i;
                int cost = i == changes ? 1 : 100 + changes - i;
                due("of " + changes + " changes, undo " + i, left, x::undo);
                due("the cost then", cost, () -> x.state(7));
            }
            due("no more of " + changes, -1, x::undo);
        }
        // The books that are kept are not mixed up, whatever they differ in.
        WidowWatch x = loaded(BOOK);
        String[] told = new String[8];
        for (int i = 0; i < 8; i++) {
            told[i] = told(x);
            x.retouch(i % 3, 0, i % 8 + 1);
        }
        for (int i = 7; i >= 0; i--) {
            int left = i;
            due("retouch " + i, left, x::undo);
            due("all that is told", told[i], () -> told(x));
        }
        due("the load is final", -1, x::undo);
    }

    private static void costs(WidowWatch x, int from, int to) {
        for (int cost = from; cost <= to; cost++) {
            x.setCost(0, cost);
        }
    }

    private static void undoFinal() {
        promise("21 undo");
        says("a change is final as soon as 8 later ones, none of them undone, have been made.");
        WidowWatch again = new WidowWatch();
        costs(again, 101, 108);
        due("the 8th undone", 7, again::undo);
        costs(again, 208, 208);
        row("another 8th: the first one is not final", new int[] {7, 6, 5, 4, 3, 2, 1, 0}, i -> again.undo());
        due("cost", 1, () -> again.state(7));

        WidowWatch late = new WidowWatch();
        costs(late, 101, 109);
        due("the 9th undone", 7, late::undo);
        row("the first one is final still", new int[] {6, 5, 4, 3, 2, 1, 0, -1}, i -> late.undo());
        due("cost", 101, () -> late.state(7));
        costs(late, 301, 307);
        row("7 new ones", new int[] {6, 5, 4, 3, 2, 1, 0, -1}, i -> late.undo());
        due("cost", 101, () -> late.state(7));

        WidowWatch mixed = new WidowWatch();
        costs(mixed, 101, 107);
        row("3 of 7 undone", new int[] {6, 5, 4}, i -> mixed.undo());
        costs(mixed, 205, 208);
        row("4 others: all 8", new int[] {7, 6, 5, 4, 3, 2, 1, 0, -1}, i -> mixed.undo());
        due("cost", 1, () -> mixed.state(7));

        WidowWatch round = new WidowWatch();
        costs(round, 101, 400);
        row("of 300", new int[] {7, 6, 5, 4, 3, 2, 1, 0, -1}, i -> round.undo());
        due("cost", 392, () -> round.state(7));
    }

    private static void undoNothing() {
        promise("21 undo");
        says("Returns the number of changes that can still be undone; -1 if there was none to undo, and nothing "
                + "changes then.");
        WidowWatch x = new WidowWatch();
        String before = told(x);
        row("of a new object", new int[] {-1, -1}, i -> x.undo());
        due("all that is told", before, () -> told(x));
        x.insert(0, 1, 1);
        due("one change", 0, x::undo);
        due("none", -1, x::undo);
        due("all that is told", before, () -> told(x));
        costs(x, 51, 58);
        row("8 behind it", new int[] {7, 6, 5, 4, 3, 2, 1, 0, -1}, i -> x.undo());
        due("all that is told", before, () -> told(x));

        says("Undoes the latest change that is not final and has not been undone.");
        WidowWatch y = loaded("book 10 2 2;limit 3;costs 9 8 7 6 5 4;heading page 5 6;para 1;");
        y.fix(0, 1);
        String fixed = told(y);
        feed(y, "book 60 40 0;para 3;");
        due("a load", 2, y::undo);
        due("all that is told", fixed, () -> told(y));
        y.remove(0);
        y.undo();
        due("undo is no change: the fix is next", 1, y::undo);
        due("free", -1, () -> y.paragraph(0, 6));
    }

    private static void notAffected() {
        promise("21 undo");
        says("The input buffer and the error offset are not affected.");
        WidowWatch x = loaded("book 10 2 2;");
        due("an error", WidowWatch.SYNTAX_ERROR, () -> feed(x, "book!"));
        append(x, "book 11 3 1;para 9;");
        due("undo of the load", 0, x::undo);
        due("the error offset", 4, x::errorOffset);
        due("the buffer has 20 bytes", NO_ARGUMENT, () -> x.load(21));
        due("they are the same", 1, () -> x.load(19));
        due("no error", -1, x::errorOffset);
        due("undo of it", 0, x::undo);
        due("the buffer stays empty", NO_ARGUMENT, () -> x.load(1));
        due("no error still", -1, x::errorOffset);
    }

    private static void severalExceptions() {
        promise("Terms, changes");
        says("If several exceptions apply to a call, the one that is listed first with the method is thrown.");
        WidowWatch x = loaded("book 10 2 2;" + SIXTEEN);
        refused(x, "paragraph", NO_INDEX, () -> x.paragraph(16, 8));
        refused(x, "word", NO_INDEX, () -> x.word(16, 1));
        refused(x, "lineLength, all three", NO_INDEX, () -> x.lineLength(16, 3, 1));
        refused(x, "lineLength, two", NO_ARGUMENT, () -> x.lineLength(15, 3, 1));
        refused(x, "page", NO_INDEX, () -> x.page(true, 8, 5));
        refused(x, "pageOf", NO_INDEX, () -> x.pageOf(false, 16, 1));
        refused(x, "fix", NO_INDEX, () -> x.fix(16, 3));
        refused(x, "insert", NO_ARGUMENT, () -> x.insert(17, 1, 1));
        refused(x, "retouch, no paragraph", NO_INDEX, () -> x.retouch(16, 2, 9));
        refused(x, "retouch, no word and 0 behind it", NO_ARGUMENT, () -> x.retouch(15, 1, 0));
        refused(x, "retouch, 31st of a wrong length", NO_ARGUMENT,
                () -> loaded("book 10 2 2;para" + THIRTY + ";").retouch(0, 30, 0));
    }

    private static void throwsChangeNothing() {
        promise("Terms, changes");
        says("A method that throws an exception changes nothing.");
        WidowWatch x = loaded(BOOK);
        due("an error", WidowWatch.SYNTAX_ERROR, () -> feed(x, "book!"));
        x.setCost(0, 3);
        append(x, "book 11 3 1;para 9;");
        refused(x, "load", NO_ARGUMENT, () -> x.load(21));
        refused(x, "state", NO_ARGUMENT, () -> x.state(13));
        refused(x, "paragraph", NO_INDEX, () -> x.paragraph(3, 0));
        refused(x, "word", NO_ELEMENT, () -> x.word(0, 4));
        refused(x, "lineLength", NO_ELEMENT, () -> x.lineLength(0, 0, 3));
        refused(x, "plan", NO_ARGUMENT, () -> x.plan(true, 7));
        refused(x, "page", NO_INDEX, () -> x.page(true, 5, 0));
        refused(x, "pageOf", NO_ELEMENT, () -> x.pageOf(false, 0, 3));
        refused(x, "help", NO_INDEX, () -> x.help(5));
        refused(x, "fix", NO_ARGUMENT, () -> x.fix(0, 3));
        refused(x, "begin", NO_INDEX, () -> x.begin(3, true));
        refused(x, "insert", NO_ARGUMENT, () -> x.insert(0, 1, 9));
        refused(x, "remove", NO_INDEX, () -> x.remove(3));
        refused(x, "retouch", NO_STATE, () -> x.retouch(2, 0, 0));
        refused(x, "setCost", NO_ARGUMENT, () -> x.setCost(0, 1000));
        due("the buffer", 40, () -> x.append(0, 0, 0, 0, 0));
        due("its text", 1, () -> x.load(19));
        row("the load, setCost and the load ahead of them", new int[] {2, 1, 0, -1}, i -> x.undo());
    }

    private static void manyCalls() {
        promise("Terms");
        says("An object is used for at most 512 calls after it has been made");
        WidowWatch x = new WidowWatch();
        for (int i = 0; i < 170; i++) {
            int length = i % 36 + 1;
            due("insert", 1, () -> x.insert(0, 30, length));
            due("page", 0, () -> x.page(true, 0, 2));
            due("undo", 0, x::undo);
        }
        due("the 511th call", 40, () -> x.state(0));
        due("the 512th call", new WidowWatch().checksum(), x::checksum);
    }
}
