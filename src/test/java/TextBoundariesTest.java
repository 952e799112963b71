/** The edges that the document's sentences name: the input buffer and the setup text, promises 1 to 4. */
public final class TextBoundariesTest extends Answers {
    private static final int SYNTAX = WidowWatch.SYNTAX_ERROR;
    private static final int RANGE = WidowWatch.OUT_OF_RANGE;
    private static final int MANY = WidowWatch.TOO_MANY;
    private static final int SPACES = 0x20202020;
    private static final String HEAD = "book 10 2 0;";
    private static final String SIXTEEN = "para 1;".repeat(16);

    public static void main(String[] args) {
        newObject();
        append();
        load();
        loadThrows();
        errorOffset();
        numbers();
        wordsAndSpaces();
        noOtherByte();
        head();
        paragraphs();
        costsAndLimit();
        syntaxErrors();
        outOfRange();
        tooMany();
        sameOffset();
        endTests("TextBoundariesTest");
    }

    private static void newObject() {
        promise("1 a new object");
        says("Creates an object without paragraphs, with an empty input buffer.");
        due("paragraphs", 0, () -> new WidowWatch().state(4));
        due("words", 0, () -> new WidowWatch().state(5));
        due("paragraph 0", NO_INDEX, () -> new WidowWatch().paragraph(0, 0));
        due("load 1", NO_ARGUMENT, () -> new WidowWatch().load(1));
        due("load 0", SYNTAX, () -> new WidowWatch().load(0));
        due("append", 20, () -> new WidowWatch().append(0, 0, 0, 0, 0));

        says("Before the first successful load there are no paragraphs, the width is 40, the height 10, the slack 4, "
                + "the costs and the limit are as without their statements.");
        int[] unloaded = {40, 10, 4, 1, 0, 0, 0, 1, 1, 2, 20, 10, 30};
        row("state of a new object", unloaded, new WidowWatch()::state);
        WidowWatch failed = new WidowWatch();
        due("a load that fails at its end", SYNTAX,
                () -> feed(failed, "book 11 3 1;limit 2;costs 3 4 5 6 7 8;para 1"));
        row("state behind it", unloaded, failed::state);
        WidowWatch x = new WidowWatch();
        due("insert of the width less the slack", 1, () -> x.insert(0, 11, 36));
        due("insert of one more", NO_ARGUMENT, () -> x.insert(0, 1, 37));
        due("11 lines on pages of 10", 2, () -> x.plan(false, 1));

        says("The constants");
        due("SYNTAX_ERROR", -2, () -> WidowWatch.SYNTAX_ERROR);
        due("OUT_OF_RANGE", -3, () -> WidowWatch.OUT_OF_RANGE);
        due("TOO_MANY", -4, () -> WidowWatch.TOO_MANY);
    }

    private static void append() {
        promise("2 append");
        says("Appends 20 bytes to the input buffer: the 4 bytes of each argument, the most significant byte first.");
        for (int at = 0; at < 20; at++) {
            for (int odd : new int[] {0, 31, 33, 127, 128, 160, 255}) {
                int[] w = {SPACES, SPACES, SPACES, SPACES, SPACES};
                int shift = 24 - at % 4 * 8;
                w[at / 4] = w[at / 4] & ~(255 << shift) | odd << shift;
                WidowWatch x = new WidowWatch();
                x.append(w[0], w[1], w[2], w[3], w[4]);
                due("load with byte " + odd + " at " + at, SYNTAX, () -> x.load(20));
                due("its place", at, x::errorOffset);
            }
        }
        for (int value : new int[] {-1, 0, Integer.MIN_VALUE, Integer.MAX_VALUE}) {
            WidowWatch x = new WidowWatch();
            due("append of " + value, 20, () -> x.append(SPACES, SPACES, SPACES, SPACES, value));
            due("load", SYNTAX, () -> x.load(20));
            due("its first byte", 16, x::errorOffset);
        }

        says("Returns the new length of the buffer; -1 if it would exceed 700 bytes, and the buffer is unchanged "
                + "then.");
        WidowWatch x = new WidowWatch();
        due("the first", 20, () -> x.append(0x626f6f6b, 0x31302032, 0x20303b20, SPACES, SPACES));
        for (int length = 40; length <= 680; length += 20) {
            due("up to " + length, length, () -> x.append(SPACES, SPACES, SPACES, SPACES, SPACES));
        }
        due("just 700", 700, () -> x.append(SPACES, SPACES, SPACES, 0x20706172, 0x6120313b));
        due("one too many", -1, () -> x.append(-1, -1, -1, -1, -1));
        due("and again", -1, () -> x.append(0, 0, 0, 0, 0));
        due("the length is unchanged", NO_ARGUMENT, () -> x.load(701));
        due("the bytes are unchanged", 1, () -> x.load(700));
        due("there is room again", 20, () -> x.append(0, 0, 0, 0, 0));
    }

    private static void load() {
        promise("3 load");
        says("Reads the first bytes of the input buffer as a setup text and replaces all data by it.");
        WidowWatch x = loaded("book 30 20 9;limit 7;costs 11 12 13 14 15 16;heading page 1 2;para 3;");
        x.fix(0, 2);
        append(x, HEAD + "para 4;para 5;!!");
        due("the first 19 bytes", 1, () -> x.load(19));
        row("state", new int[] {10, 2, 0, 1, 1, 1, 0, 1, 1, 2, 20, 10, 30}, x::state);
        row("paragraph 0", new int[] {1, 1, 1, 1, 0, 0, -1, 0}, what -> x.paragraph(0, what));
        due("its word", 4, () -> x.word(0, 0));
        append(x, HEAD + "para 4;");
        due("the first 12 bytes", 0, () -> x.load(12));
        due("no words", 0, () -> x.state(5));
        append(x, HEAD);
        due("one byte less than the text", SYNTAX, () -> x.load(11));

        says("The input buffer is empty afterwards, also if the text has an error.");
        WidowWatch y = new WidowWatch();
        append(y, HEAD + " ".repeat(28));
        due("a good load of a part", 0, () -> y.load(12));
        due("load 1", NO_ARGUMENT, () -> y.load(1));
        append(y, "!" + HEAD + " ".repeat(27));
        due("a load with an error", SYNTAX, () -> y.load(1));
        due("load 1", NO_ARGUMENT, () -> y.load(1));
        append(y, HEAD + " ".repeat(28));
        due("a load of nothing", SYNTAX, () -> y.load(0));
        due("load 1", NO_ARGUMENT, () -> y.load(1));
        due("append", 20, () -> y.append(0, 0, 0, 0, 0));

        says("An error leaves all other data unchanged.");
        WidowWatch z = loaded("book 30 20 9;limit 7;costs 11 12 13 14 15 16;heading page 1 2;para 3;");
        z.fix(0, 2);
        String before = told(z);
        due("an error at the end", SYNTAX,
                () -> feed(z, "book 11 3 1;limit 0;costs 1 2 3 4 5 6;para page 7 8;heading 9"));
        due("all that is told", before, () -> told(z));
        due("an error of range", RANGE, () -> feed(z, "book 11 3 1;para 7;para 11;"));
        due("all that is told", before, () -> told(z));
        due("an error of number", MANY, () -> feed(z, HEAD + SIXTEEN + "para 1;"));
        due("all that is told", before, () -> told(z));
        row("state", new int[] {30, 20, 9, 7, 2, 3, 1, 11, 12, 13, 14, 15, 16}, z::state);
        due("the changes that can be undone", 1, z::undo);

        says("An empty text has a SYNTAX_ERROR.");
        error("", SYNTAX, 0);
        WidowWatch filled = loaded(HEAD);
        append(filled, HEAD);
        due("load 0 of a buffer that has bytes", SYNTAX, () -> filled.load(0));
        due("its offset", 0, filled::errorOffset);

        says("Returns the number of paragraphs; or the error code of the first error.");
        good(HEAD, 0);
        good(HEAD + "para 1;", 1);
        good(HEAD + SIXTEEN, 16);
        error(HEAD + "para 11;!", RANGE, 17);
    }

    private static void loadThrows() {
        promise("3 load");
        says("if length is negative or greater than the length of the buffer; the buffer is unchanged then");
        WidowWatch x = loaded("book 30 20 9;para 3;");
        refused(x, "load 1 of an empty buffer", NO_ARGUMENT, () -> x.load(1));
        append(x, HEAD + "para 10;");
        for (int length : new int[] {-1, 21, 700, Integer.MIN_VALUE, Integer.MAX_VALUE, Integer.MIN_VALUE + 20}) {
            refused(x, "load " + length, NO_ARGUMENT, () -> x.load(length));
        }
        due("load 20", 1, () -> x.load(20));
        due("its word", 10, () -> x.word(0, 0));
        append(x, HEAD + " ".repeat(688));
        refused(x, "load 701", NO_ARGUMENT, () -> x.load(701));
        due("load 700", 0, () -> x.load(700));
        due("the changes that can be undone: three loads", 2, x::undo);
    }

    private static void errorOffset() {
        promise("4 errorOffset");
        says("Returns the offset of the error found by the latest call of load that did not throw; "
                + "-1 if it found none or if there was no such call.");
        WidowWatch x = new WidowWatch();
        due("without load", -1, x::errorOffset);
        due("a load that throws", NO_ARGUMENT, () -> x.load(1));
        due("without another", -1, x::errorOffset);
        due("an error at the first byte", SYNTAX, () -> feed(x, "!"));
        due("its offset", 0, x::errorOffset);
        due("an error at the last of 700 bytes", SYNTAX, () -> feed(x, HEAD + " ".repeat(687) + "!"));
        due("its offset", 699, x::errorOffset);
        due("a text of 700 bytes that ends early", SYNTAX, () -> feed(x, HEAD + "para 1" + " ".repeat(682)));
        due("its offset", 700, x::errorOffset);
        due("a load that throws", NO_ARGUMENT, () -> x.load(-1));
        due("that of the load before", 700, x::errorOffset);
        due("a good load", 0, () -> feed(x, HEAD));
        due("none", -1, x::errorOffset);
        due("a load that throws", NO_ARGUMENT, () -> x.load(21));
        due("none still", -1, x::errorOffset);

        says("The setup text is read from an input buffer of at most 700 bytes.");
        WidowWatch full = new WidowWatch();
        due("the last byte counts", 1, () -> feed(full, HEAD + " ".repeat(681) + "para 7;"));
        due("word", 7, () -> full.word(0, 0));
        due("701 bytes", NO_ARGUMENT, () -> feed(full, HEAD + " ".repeat(689)));
    }

    private static void numbers() {
        promise("3 load, numbers");
        says("A number is a run of decimal digits, of any length (leading zeros do not matter)");
        String zeros = "0".repeat(200);
        WidowWatch x = new WidowWatch();
        due("zeros ahead of all numbers", 1,
                () -> feed(x, "book " + zeros + "10 " + zeros + "2 " + zeros + ";para " + "0".repeat(60) + "10;"));
        row("state", new int[] {10, 2, 0}, x::state);
        due("word", 10, () -> x.word(0, 0));
        error("book " + zeros + ";", RANGE, 5);
        error("book " + "9".repeat(690) + ";", RANGE, 5);
        error("book 1" + zeros + " 2 0;", RANGE, 5);
        error("book 4294967306 2 0;", RANGE, 5);
        error("book 18446744073709551626 2 0;", RANGE, 5);
        error("book 10 2147483648 0;", RANGE, 8);
        error("book 10 4294967298 0;", RANGE, 8);
        error("book 10 2 4294967296;", RANGE, 10);
        error("book 10 2 9223372036854775808;", RANGE, 10);
        error(HEAD + "para 100001;", RANGE, 17);
        error(HEAD + "para 00;", RANGE, 17);
        error(HEAD + "para 000000000011;", RANGE, 17);
        good(HEAD + "para 000000000010;", 1);

        says("a number outside its range, at its first digit");
        error("book   0009 2 0;", RANGE, 7);
        error(HEAD + "limit00010;", RANGE, 17);
        error(HEAD + "para 1   0011;", RANGE, 21);
    }

    private static void wordsAndSpaces() {
        promise("3 load, words and spaces");
        says("a word is a run of the letters a to z. Each run is as long as possible.");
        for (String text : new String[] {"books 10 2 0;", "boo 10 2 0;", "b ook 10 2 0;", "Book 10 2 0;",
            "bookpara 10 2 0;", "{ook 10 2 0;", "`ook 10 2 0;"}) {
            error(text, SYNTAX, 0);
        }
        for (String word : new String[] {"paras", "par", "p", "z", "parapage", "headings", "headin", "limits", "cost",
            "costss", "book", "page", "Para", "parA"}) {
            error(HEAD + word + " 1;", SYNTAX, 12);
        }
        error(HEAD + "para pag 1;", SYNTAX, 17);
        error(HEAD + "para pages 1;", SYNTAX, 17);
        error(HEAD + "para pagepage 1;", SYNTAX, 17);
        error("book 102 0;", RANGE, 5);

        says("Spaces (byte 32) may precede any token and may follow the last one; they are needed only between two "
                + "numbers and between two words.");
        good("book10 2 0;para1;heading page1 1;costs1 1 1 1 1 1;limit1;", 2);
        good("  book  10  2  0  ;  para  page  1  ;  heading  1  1  ;  limit  1  ;  costs 1 1 1 1 1  1  ;  ", 2);
        good(HEAD + " ", 0);
        good(" " + HEAD, 0);
        error("book 10 20;", SYNTAX, 10);
        error("book 1020;", RANGE, 5);
        error(HEAD + "parapage 1;", SYNTAX, 12);
        due("without a space two numbers are one", 12, () -> loaded("book 60 2 0;para 12;").word(0, 0));
    }

    private static void noOtherByte() {
        promise("3 load, spaces");
        says("No other byte separates tokens.");
        for (int b = 0; b < 256; b++) {
            char sign = (char) b;
            boolean isDigit = sign >= '0' && sign <= '9';
            boolean isLetter = sign >= 'a' && sign <= 'z';
            if (sign == ' ') {
                good(HEAD + sign + "para" + sign + "1" + sign + ";", 1);
                continue;
            }
            error(HEAD + sign + "para 1;", SYNTAX, 12);
            if (sign == '0') {
                good(HEAD + "para" + sign + "1;", 1);
            } else {
                error(HEAD + "para" + sign + "1;", isDigit ? RANGE : SYNTAX, isLetter ? 12 : 16);
            }
            if (isDigit) {
                error(HEAD + "para 1" + sign + "2;", RANGE, 17);
            } else if (sign == ';') {
                error(HEAD + "para 1" + sign + "2;", SYNTAX, 19);
            } else {
                error(HEAD + "para 1" + sign + "2;", SYNTAX, 18);
            }
        }
    }

    private static void head() {
        promise("3 load, the book");
        says("A book has a width (10 to 60), a height (2 to 40), a slack (0 to 9)");
        for (int width : new int[] {10, 60}) {
            for (int height : new int[] {2, 40}) {
                for (int slack : new int[] {0, 9}) {
                    WidowWatch x = loaded("book " + width + " " + height + " " + slack + ";");
                    row("state", new int[] {width, height, slack}, x::state);
                }
            }
        }
        error("book 9 2 0;", RANGE, 5);
        error("book 61 2 0;", RANGE, 5);
        error("book 0 2 0;", RANGE, 5);
        error("book 10 1 0;", RANGE, 8);
        error("book 10 41 0;", RANGE, 8);
        error("book 10 0 0;", RANGE, 8);
        error("book 10 2 10;", RANGE, 10);

        says("The numbers of book are the width, the height and the slack.");
        error("book 10 2;", SYNTAX, 9);
        error("book 10;", SYNTAX, 7);
        error("book;", SYNTAX, 4);
        error("book 10 2 0 0;", SYNTAX, 12);
        error("book 60 40 9 10;", SYNTAX, 13);
        error("para 1;" + HEAD, SYNTAX, 0);
        error("limit 1;" + HEAD, SYNTAX, 0);
        error(HEAD + HEAD, SYNTAX, 12);
        error("10 2 0;", SYNTAX, 0);
    }

    private static void paragraphs() {
        promise("3 load, paragraphs");
        says("at most 16 paragraphs, with indexes from 0");
        WidowWatch most = loaded(HEAD + SIXTEEN);
        due("paragraph 0", 1, () -> most.paragraph(0, 0));
        due("paragraph 15", 1, () -> most.paragraph(15, 0));
        due("paragraph 16", NO_INDEX, () -> most.paragraph(16, 0));
        due("paragraph -1", NO_INDEX, () -> most.paragraph(-1, 0));
        error(HEAD + SIXTEEN + "para 1;", MANY, 124);

        says("A paragraph has 1 to 30 words, each with a length of 1 to the width less the slack");
        error(HEAD + "para;", SYNTAX, 16);
        error(HEAD + "heading page;", SYNTAX, 24);
        due("one word", 1, () -> loaded(HEAD + "para 1;").paragraph(0, 0));
        due("30 words", 30, () -> loaded(HEAD + "para" + THIRTY + ";").paragraph(0, 0));
        due("the 30th word", 9, () -> loaded(HEAD + "para" + THIRTY.substring(2) + " 9;").word(0, 29));
        error(HEAD + "para" + THIRTY + " 1;", MANY, 77);
        for (int slack : new int[] {0, 1, 9}) {
            for (int width : new int[] {10, 60}) {
                String start = "book " + width + " 2 " + slack + ";para ";
                good(start + "1 " + (width - slack) + ";", 1);
                error(start + "1 " + (width - slack + 1) + ";", RANGE, start.length() + 2);
                error(start + "0;", RANGE, start.length());
            }
        }

        says("it is a heading or not; and it begins a page or not");
        WidowWatch kinds = loaded(HEAD + "para 1;heading 1;para page 1;heading page 1;");
        row("headings", new int[] {0, 1, 0, 1}, p -> kinds.paragraph(p, 4));
        row("begin a page", new int[] {0, 0, 1, 1}, p -> kinds.paragraph(p, 5));
        error(HEAD + "para page page 1;", SYNTAX, 22);
        error(HEAD + "para 1 page;", SYNTAX, 19);
        error(HEAD + "page para 1;", SYNTAX, 12);
        error(HEAD + "heading para 1;", SYNTAX, 20);

        says("All paragraphs are free.");
        WidowWatch fixed = loaded(HEAD + "para 1;para 1;");
        fixed.fix(0, 0);
        fixed.fix(1, 2);
        feed(fixed, HEAD + "para 1;para 1;para 1;");
        row("fixed to", new int[] {-1, -1, -1}, p -> fixed.paragraph(p, 6));
        due("paragraphs that are fixed", 0, () -> fixed.state(6));
    }

    private static void costsAndLimit() {
        promise("3 load, costs and limit");
        says("Those of costs are the costs tight, loose, short, widow, orphan and heading "
                + "(1, 1, 2, 20, 10 and 30 without it).");
        row("without", new int[] {1, 1, 2, 20, 10, 30}, which -> loaded(HEAD).state(7 + which));
        row("with", new int[] {0, 999, 3, 4, 5, 6}, which -> loaded(HEAD + "costs 0 999 3 4 5 6;").state(7 + which));
        WidowWatch again = loaded(HEAD + "costs 9 9 9 9 9 9;limit 9;");
        feed(again, HEAD);
        row("without, behind one with", new int[] {1, 1, 1, 2, 20, 10, 30},
                i -> again.state(i == 0 ? 3 : 6 + i));
        error(HEAD + "costs 1 1 1 1 1;", SYNTAX, 27);
        error(HEAD + "costs;", SYNTAX, 17);
        error(HEAD + "costs 1 1 1 1 1 1 1;", SYNTAX, 30);

        says("The six costs are 0 to 999.");
        for (int which = 0; which < 6; which++) {
            String start = HEAD + "costs" + " 5".repeat(which) + " ";
            String rest = " 5".repeat(5 - which) + ";";
            int at = 7 + which;
            due("0 at " + which, 0, () -> loaded(start + "0" + rest).state(at));
            due("999 at " + which, 999, () -> loaded(start + "999" + rest).state(at));
            error(start + "1000" + rest, RANGE, start.length());
        }

        says("The limit is 1 without its statement.");
        due("without", 1, () -> loaded(HEAD).state(3));
        due("least", 0, () -> loaded(HEAD + "limit 0;").state(3));
        due("greatest", 9, () -> loaded(HEAD + "limit 9;").state(3));
        error(HEAD + "limit 10;", RANGE, 18);
        error(HEAD + "limit;", SYNTAX, 17);
        error(HEAD + "limit 1 1;", SYNTAX, 20);

        says("The statements costs and limit may occur once each, anywhere.");
        String costs = "costs 1 2 3 4 5 6;";
        good(HEAD + costs + "limit 2;para 1;", 1);
        good(HEAD + "para 1;limit 2;" + costs, 1);
        good(HEAD + "limit 2;para 1;" + costs, 1);
        good(HEAD + SIXTEEN + "limit 2;" + costs, 16);
        error(HEAD + costs + costs, SYNTAX, 30);
        error(HEAD + "limit 2;limit 2;", SYNTAX, 20);
        error(HEAD + "limit 2;para 1;" + costs + "  limit 2;", SYNTAX, 47);
        WidowWatch twice = loaded(HEAD + costs + "limit 2;");
        due("in the next text again", 0, () -> feed(twice, HEAD + "limit 3;" + costs));
        due("and behind one with an error", SYNTAX, () -> feed(twice, HEAD + costs + "limit 3!"));
        due("again", 0, () -> feed(twice, HEAD + costs + "limit 4;"));
        due("limit", 4, () -> twice.state(3));
    }

    private static void syntaxErrors() {
        promise("3 load, SYNTAX_ERROR");
        says("a token or byte that the grammar does not allow here, at its first byte");
        error(HEAD + "para 1,2;", SYNTAX, 18);
        error(HEAD + "  paras 1;", SYNTAX, 14);
        error(HEAD + ";", SYNTAX, 12);
        error(HEAD + "  ;", SYNTAX, 14);
        error(HEAD + "1;", SYNTAX, 12);
        error(HEAD + "para -1;", SYNTAX, 17);
        error(HEAD + "para +1;", SYNTAX, 17);
        error(HEAD + "para 1.0;", SYNTAX, 18);
        error(HEAD + "para 1;;", SYNTAX, 19);
        error(HEAD + "para 1 para 1;", SYNTAX, 19);
        error("book 10 2 0 para 1;", SYNTAX, 12);

        says("the end of the text, at its length, if the text ends too early");
        String whole = "book 10 2 0;limit 1;costs 1 1 1 1 1 1;heading page 1 2;";
        for (int length = 0; length < whole.length(); length++) {
            String part = whole.substring(0, length);
            boolean isWhole = part.endsWith(";");
            // A word or a number that is cut off may be another one by that: only cuts behind a token are looked at.
            if (!isWhole && whole.substring(length).matches("(?s)[ ;].*")) {
                error(part, SYNTAX, length);
                error(part + "  ", SYNTAX, length + 2);
            }
        }
        error("   ", SYNTAX, 3);

        says("a second costs or limit, at its first letter");
        error(HEAD + "limit 1; limit", SYNTAX, 21);
        error(HEAD + "limit 1; limit 10;", SYNTAX, 21);
        error(HEAD + "costs 1 1 1 1 1 1; costs", SYNTAX, 31);
        error(HEAD + "costs 1 1 1 1 1 1; costs 1000 1 1 1 1 1;", SYNTAX, 31);
    }

    private static void outOfRange() {
        promise("3 load, OUT_OF_RANGE");
        says("The first error in the text is the one with the smallest offset.");
        error("book 9 1 10;!", RANGE, 5);
        error("book 10 1 10;!", RANGE, 8);
        error("book 10 2 10;!", RANGE, 10);
        error("book 10 2 10!", RANGE, 10);
        error("book! 9 1 10;", SYNTAX, 4);
        error(HEAD + "! para 11;", SYNTAX, 12);
        error(HEAD + "para 11 !", RANGE, 17);
        error(HEAD + "para 10 11 0;", RANGE, 20);
        error(HEAD + "limit 10;limit 10;", RANGE, 18);
        error(HEAD + "limit 1;limit 10;costs 1000;", SYNTAX, 20);
        error(HEAD + SIXTEEN + "limit 10;para 1;", RANGE, 130);
        error(HEAD + SIXTEEN + "para 11;", MANY, 124);
        error(HEAD + SIXTEEN + "para;", MANY, 124);
        error(HEAD + SIXTEEN + "para", MANY, 124);
        error(HEAD + "para" + THIRTY.substring(2) + " 11 1;", RANGE, 75);
    }

    private static void tooMany() {
        promise("3 load, TOO_MANY");
        says("a 17th paragraph, at the first letter of its statement");
        error(HEAD + SIXTEEN + "heading page 1;", MANY, 124);
        error(HEAD + SIXTEEN + "   para 1;", MANY, 127);
        good(HEAD + "para 1;".repeat(15) + "heading 1;", 16);
        error(HEAD + "limit 1;" + SIXTEEN + "costs 1 1 1 1 1 1;para 1;", MANY, 150);

        says("a 31st word of a paragraph, at its first digit");
        error(HEAD + "para" + THIRTY + "   01;", MANY, 79);
        error(HEAD + "para page" + THIRTY + " 1;", MANY, 82);
        error(HEAD + "heading" + THIRTY + " 10;", MANY, 80);
        good(HEAD + "para" + THIRTY + ";para" + THIRTY + ";", 2);
        error(HEAD + "para" + THIRTY + ";para" + THIRTY + " 1 1;", MANY, 142);
    }

    private static void sameOffset() {
        promise("3 load, several kinds of error");
        says("If several kinds of error have the same offset, the first one in this list counts");
        // A 31st word that is out of range; a 17th statement that is none; a number out of range where none may be.
        error(HEAD + "para" + THIRTY + " 11;", RANGE, 77);
        error(HEAD + "para" + THIRTY + " 0;", RANGE, 77);
        error(HEAD + "para" + THIRTY + " page;", SYNTAX, 77);
        error(HEAD + SIXTEEN + "paras 1;", SYNTAX, 124);
        error(HEAD + SIXTEEN + "limits 1;", SYNTAX, 124);
        error(HEAD + "limit 1 10;", SYNTAX, 20);
        error("book 10 2 0 99;", SYNTAX, 12);
    }
}
