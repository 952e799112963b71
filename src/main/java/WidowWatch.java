import java.util.NoSuchElementException;

/** Pages of a book without widows; see README.md, and the document for what each call promises. */
public final class WidowWatch {
    public static final int SYNTAX_ERROR = -2;
    public static final int OUT_OF_RANGE = -3;
    public static final int TOO_MANY = -4;

    private static final int BUFFER_BYTES = 700;
    private static final int APPENDED_BYTES = 20;
    private static final int MOST_PARAGRAPHS = 16;
    private static final int MOST_WORDS = 30;
    private static final int MOST_HEIGHT = 40;
    private static final int MOST_CHANGES = 8;
    // A word fits into any line and a page has a line at least: so many lines, and pages, there can be.
    private static final int MOST_LINES = MOST_PARAGRAPHS * MOST_WORDS;

    private static final int NORMAL = 0;
    private static final int TIGHT = 1;
    private static final int LOOSE = 2;
    private static final int SETTINGS = 3;
    private static final int FREE = -1;

    private static final int SHORT = 2;
    private static final int WIDOW = 3;
    private static final int ORPHAN = 4;
    private static final int HEADING = 5;
    private static final int COSTS = 6;
    private static final int MOST_COST = 999;
    private static final int[] USUAL_COSTS = {1, 1, 2, 20, 10, 30};

    private static final int STATE_NUMBERS = 13;
    private static final int PARAGRAPH_NUMBERS = 8;
    private static final int BEST_SETTING = 7;
    private static final int PLAN_NUMBERS = 7;
    private static final int PAGE_NUMBERS = 5;

    private final int[] buffer = new int[BUFFER_BYTES];
    private int bufferLength = 0;
    private int latestErrorOffset = -1;

    private final Book book = new Book();
    private final History history = new History();
    private final Reader reader = new Reader();
    private final Lines lines = new Lines();
    private final Planner planner = new Planner();
    private final Plan plainPlan = new Plan();
    private final Plan bestPlan = new Plan();
    private final Plan trialPlan = new Plan();
    private boolean isPlainFresh = false;
    private boolean isBestFresh = false;

    public WidowWatch() {
    }

    public int append(int w0, int w1, int w2, int w3, int w4) {
        if (bufferLength + APPENDED_BYTES > BUFFER_BYTES) {
            return -1;
        }
        addBytes(w0);
        addBytes(w1);
        addBytes(w2);
        addBytes(w3);
        addBytes(w4);
        return bufferLength;
    }

    public int load(int length) throws IllegalArgumentException {
        if (length < 0 || length > bufferLength) {
            throw new IllegalArgumentException("length is not within the buffer");
        }
        bufferLength = 0;
        reader.read(buffer, length);
        latestErrorOffset = reader.errorOffset;
        if (reader.error != 0) {
            return reader.error;
        }
        history.keep(book);
        book.copyFrom(reader.draft);
        noteChange();
        return book.paragraphs;
    }

    public int errorOffset() {
        return latestErrorOffset;
    }

    public int state(int what) throws IllegalArgumentException {
        requireWhat(what, STATE_NUMBERS);
        return book.numberOf(what);
    }

    public int paragraph(int paragraph, int what) throws IndexOutOfBoundsException, IllegalArgumentException {
        requireParagraph(paragraph);
        requireWhat(what, PARAGRAPH_NUMBERS);
        if (what == BEST_SETTING) {
            return upToDate(true).settingOf(paragraph);
        }
        return paragraphNumber(paragraph, what);
    }

    public int word(int paragraph, int k) throws IndexOutOfBoundsException, NoSuchElementException {
        requireParagraph(paragraph);
        if (k < 0 || k >= book.wordsOf(paragraph)) {
            throw new NoSuchElementException("no such word");
        }
        return book.wordAt(paragraph, k);
    }

    public int lineLength(int paragraph, int setting, int line)
            throws IndexOutOfBoundsException, IllegalArgumentException, NoSuchElementException {
        requireParagraph(paragraph);
        if (setting < NORMAL || setting > LOOSE) {
            throw new IllegalArgumentException("no such setting");
        }
        if (line < 0 || line >= lines.countOf(paragraph, setting)) {
            throw new NoSuchElementException("no such line");
        }
        return lines.takenBy(paragraph, setting, line);
    }

    public int plan(boolean isBest, int what) throws IllegalArgumentException {
        requireWhat(what, PLAN_NUMBERS);
        return upToDate(isBest).numberOf(book, what);
    }

    public int page(boolean isBest, int page, int what) throws IndexOutOfBoundsException, IllegalArgumentException {
        Plan asked = upToDate(isBest);
        requirePage(asked, page);
        requireWhat(what, PAGE_NUMBERS);
        return asked.pageNumber(book, page, what);
    }

    public int pageOf(boolean isBest, int paragraph, int line)
            throws IndexOutOfBoundsException, NoSuchElementException {
        requireParagraph(paragraph);
        Plan asked = upToDate(isBest);
        if (line < 0 || line >= asked.linesOf(paragraph)) {
            throw new NoSuchElementException("no such line");
        }
        return asked.pageWith(paragraph, line);
    }

    public int help(int page) throws IndexOutOfBoundsException {
        Plan plain = upToDate(false);
        requirePage(plain, page);
        if (!plain.isWidow(page)) {
            return -2;
        }
        for (int p = plain.firstParagraph(page); p >= 0; p--) {
            for (int setting = TIGHT; setting <= LOOSE; setting++) {
                if (helps(p, setting, page)) {
                    return 10 * p + setting;
                }
            }
            if (book.beginsPage(p)) {
                return -1;
            }
        }
        return -1;
    }

    public int saved() {
        return upToDate(false).numberOf(book, 0) - upToDate(true).numberOf(book, 0);
    }

    public float fullness() {
        Plan best = upToDate(true);
        float room = (float) (best.pages * book.height);
        if (room <= 0) {
            return 0;
        }
        return (float) best.numberOf(book, 6) / room;
    }

    public int fix(int paragraph, int setting) throws IndexOutOfBoundsException, IllegalArgumentException {
        requireParagraph(paragraph);
        if (setting < FREE || setting > LOOSE) {
            throw new IllegalArgumentException("no such setting");
        }
        history.keep(book);
        int before = book.fixedTo(paragraph);
        book.fixTo(paragraph, setting);
        noteChange();
        return before;
    }

    public boolean begin(int paragraph, boolean isPage) throws IndexOutOfBoundsException {
        requireParagraph(paragraph);
        history.keep(book);
        boolean before = book.beginsPage(paragraph);
        book.setBeginsPage(paragraph, isPage);
        noteChange();
        return before;
    }

    public int insert(int at, int words, int length) throws IllegalArgumentException, IllegalStateException {
        if (at < 0 || at > book.paragraphs || words < 1 || words > MOST_WORDS
                || length < 1 || length > book.longestWord()) {
            throw new IllegalArgumentException("a parameter is out of range");
        }
        if (book.paragraphs >= MOST_PARAGRAPHS) {
            throw new IllegalStateException("no room for a paragraph");
        }
        history.keep(book);
        book.openParagraph(at, false, false);
        for (int k = 0; k < words; k++) {
            book.addWord(at, length);
        }
        noteChange();
        return book.paragraphs;
    }

    public int remove(int paragraph) throws IndexOutOfBoundsException {
        requireParagraph(paragraph);
        history.keep(book);
        int words = book.wordsOf(paragraph);
        book.closeParagraph(paragraph);
        noteChange();
        return words;
    }

    public int retouch(int paragraph, int k, int length)
            throws IndexOutOfBoundsException, IllegalArgumentException, IllegalStateException {
        requireParagraph(paragraph);
        int words = book.wordsOf(paragraph);
        if (k < 0 || k > words || length < 0 || length > book.longestWord() || length == 0 && k == words) {
            throw new IllegalArgumentException("a parameter is out of range");
        }
        if (length == 0 && words == 1 || k == words && words >= MOST_WORDS) {
            throw new IllegalStateException("too few or too many words");
        }
        history.keep(book);
        if (k == words) {
            book.addWord(paragraph, length);
        } else if (length == 0) {
            book.takeWordOut(paragraph, k);
        } else {
            book.setWord(paragraph, k, length);
        }
        noteChange();
        return lines.countOf(paragraph, NORMAL);
    }

    public int setCost(int which, int cost) throws IllegalArgumentException {
        if (which < 0 || which >= COSTS || cost < 0 || cost > MOST_COST) {
            throw new IllegalArgumentException("a parameter is out of range");
        }
        history.keep(book);
        int before = book.costOf(which);
        book.setCostOf(which, cost);
        noteChange();
        return before;
    }

    public int undo() {
        if (history.kept == 0) {
            return -1;
        }
        history.bringBack(book);
        noteChange();
        return history.kept;
    }

    public long checksum() {
        Plan plain = upToDate(false);
        Plan best = upToDate(true);
        long sum = 0;
        for (int what = 0; what < STATE_NUMBERS; what++) {
            sum = 31 * sum + book.numberOf(what);
        }
        for (int p = 0; p < book.paragraphs; p++) {
            for (int what = 0; what < BEST_SETTING; what++) {
                sum = 31 * sum + paragraphNumber(p, what);
            }
            sum = 31 * sum + best.settingOf(p);
        }
        return withPlan(withPlan(sum, plain), best);
    }

    private long withPlan(long before, Plan told) {
        long sum = before;
        for (int what = 0; what < PLAN_NUMBERS; what++) {
            sum = 31 * sum + told.numberOf(book, what);
        }
        for (int page = 0; page < told.pages; page++) {
            for (int what = 0; what < PAGE_NUMBERS; what++) {
                sum = 31 * sum + told.pageNumber(book, page, what);
            }
        }
        return sum;
    }

    private void addBytes(int four) {
        for (int shift = 24; shift >= 0; shift -= 8) {
            put(buffer, bufferLength, four >> shift & 255);
            bufferLength++;
        }
    }

    private void requireParagraph(int paragraph) {
        if (paragraph < 0 || paragraph >= book.paragraphs) {
            throw new IndexOutOfBoundsException("no such paragraph");
        }
    }

    private static void requirePage(Plan asked, int page) {
        if (page < 0 || page >= asked.pages) {
            throw new IndexOutOfBoundsException("no such page");
        }
    }

    private static void requireWhat(int what, int numbers) {
        if (what < 0 || what >= numbers) {
            throw new IllegalArgumentException("no such number");
        }
    }

    /** What the book and its lines tell of a paragraph; its setting in the best plan is asked apart. */
    private int paragraphNumber(int p, int what) {
        switch (what) {
            case 0:
                return book.wordsOf(p);
            case 4:
                return book.isHeading(p) ? 1 : 0;
            case 5:
                return book.beginsPage(p) ? 1 : 0;
            case 6:
                return book.fixedTo(p);
            default:
                return lines.countOf(p, what - 1);
        }
    }

    private void noteChange() {
        lines.breakAll(book);
        isPlainFresh = false;
        isBestFresh = false;
    }

    // The best plan is dear: it is made when it is asked for, not at every change.
    private Plan upToDate(boolean isBest) {
        if (isBest) {
            if (!isBestFresh) {
                planner.lay(book, lines, bestPlan);
                isBestFresh = true;
            }
            return bestPlan;
        }
        if (!isPlainFresh) {
            layPlain(plainPlan, -1, NORMAL);
            isPlainFresh = true;
        }
        return plainPlan;
    }

    /** Lays the plain plan, but with paragraph odd (none if it is -1) in another setting. */
    private void layPlain(Plan laid, int odd, int oddSetting) {
        laid.clear();
        for (int p = 0; p < book.paragraphs; p++) {
            int setting = p == odd ? oddSetting : NORMAL;
            int count = lines.countOf(p, setting);
            laid.setParagraph(p, setting, count);
            for (int line = 0; line < count; line++) {
                boolean isStart = line == 0 && book.beginsPage(p);
                laid.addLine(p, line, book.mustEnd(laid.linesOnLastPage(), isStart));
            }
        }
    }

    private boolean helps(int p, int setting, int page) {
        layPlain(trialPlan, p, setting);
        return page >= trialPlan.pages || !trialPlan.isWidow(page);
    }

    // Every row is read and written through these two, so that no index can be outside of it.
    private static int get(int[] row, int index) {
        return index >= 0 && index < row.length ? row[index] : 0;
    }

    private static void put(int[] row, int index, int value) {
        if (index >= 0 && index < row.length) {
            row[index] = value;
        }
    }

    private static void copyRow(int[] from, int[] to) {
        for (int i = 0; i < from.length && i < to.length; i++) {
            to[i] = from[i];
        }
    }

    /** What a setup text tells and the changes alter: all that undo brings back. */
    private static final class Book {
        // The places in the row of a paragraph.
        private static final int WORD_COUNT = 0;
        private static final int IS_HEADING = 1;
        private static final int BEGINS_PAGE = 2;
        private static final int FIXED_TO = 3;
        private static final int FIRST_WORD = 4;
        private static final int ROW = FIRST_WORD + MOST_WORDS;

        int width;
        int height;
        int slack;
        int limit;
        int paragraphs;
        final int[] costs = new int[COSTS];
        final int[] rows = new int[MOST_PARAGRAPHS * ROW];

        Book() {
            reset();
        }

        void reset() {
            width = 40;
            height = 10;
            slack = 4;
            limit = 1;
            paragraphs = 0;
            copyRow(USUAL_COSTS, costs);
        }

        void copyFrom(Book other) {
            width = other.width;
            height = other.height;
            slack = other.slack;
            limit = other.limit;
            paragraphs = other.paragraphs;
            copyRow(other.costs, costs);
            copyRow(other.rows, rows);
        }

        int numberOf(int what) {
            switch (what) {
                case 0:
                    return width;
                case 1:
                    return height;
                case 2:
                    return slack;
                case 3:
                    return limit;
                case 4:
                    return paragraphs;
                case 5:
                    return allWords();
                case 6:
                    return allFixed();
                default:
                    return costOf(what - 7);
            }
        }

        int allWords() {
            int words = 0;
            for (int p = 0; p < paragraphs; p++) {
                words += wordsOf(p);
            }
            return words;
        }

        int allFixed() {
            int fixed = 0;
            for (int p = 0; p < paragraphs; p++) {
                fixed += fixedTo(p) == FREE ? 0 : 1;
            }
            return fixed;
        }

        int costOf(int which) {
            return get(costs, which);
        }

        void setCostOf(int which, int cost) {
            put(costs, which, cost);
        }

        int longestWord() {
            return width - slack;
        }

        int lineHolds(int setting) {
            return setting == TIGHT ? width + slack : setting == LOOSE ? width - slack : width;
        }

        int wordsOf(int p) {
            return get(rows, p * ROW + WORD_COUNT);
        }

        int wordAt(int p, int k) {
            return get(rows, p * ROW + FIRST_WORD + k);
        }

        boolean isHeading(int p) {
            return get(rows, p * ROW + IS_HEADING) == 1;
        }

        boolean beginsPage(int p) {
            return get(rows, p * ROW + BEGINS_PAGE) == 1;
        }

        int fixedTo(int p) {
            return get(rows, p * ROW + FIXED_TO);
        }

        void setBeginsPage(int p, boolean isPage) {
            put(rows, p * ROW + BEGINS_PAGE, isPage ? 1 : 0);
        }

        void fixTo(int p, int setting) {
            put(rows, p * ROW + FIXED_TO, setting);
        }

        void setWord(int p, int k, int length) {
            put(rows, p * ROW + FIRST_WORD + k, length);
        }

        void addWord(int p, int length) {
            int words = wordsOf(p);
            setWord(p, words, length);
            put(rows, p * ROW + WORD_COUNT, words + 1);
        }

        void takeWordOut(int p, int k) {
            int words = wordsOf(p) - 1;
            for (int i = k; i < words; i++) {
                setWord(p, i, wordAt(p, i + 1));
            }
            put(rows, p * ROW + WORD_COUNT, words);
        }

        /** Makes room for a free paragraph, as yet without words. */
        void openParagraph(int at, boolean isHeading, boolean isPage) {
            for (int i = paragraphs * ROW - 1; i >= at * ROW; i--) {
                put(rows, i + ROW, get(rows, i));
            }
            paragraphs++;
            put(rows, at * ROW + WORD_COUNT, 0);
            put(rows, at * ROW + IS_HEADING, isHeading ? 1 : 0);
            setBeginsPage(at, isPage);
            fixTo(at, FREE);
        }

        void closeParagraph(int at) {
            paragraphs--;
            for (int i = at * ROW; i < paragraphs * ROW; i++) {
                put(rows, i, get(rows, i + ROW));
            }
        }

        /**
         * Whether a page with so many lines must end ahead of a line, isStart telling whether that is the first one
         * of a paragraph that begins a page. A page without lines is the one that the book's first line comes to.
         */
        boolean mustEnd(int linesOnPage, boolean isStart) {
            return linesOnPage > 0 && (isStart || linesOnPage >= height);
        }

        boolean canEnd(int linesOnPage) {
            return linesOnPage > 0 && height - linesOnPage <= limit;
        }

        int endCost(int linesOnPage, boolean isStart) {
            return isStart ? 0 : (height - linesOnPage) * get(costs, SHORT);
        }

        /** What a page but the first one costs if it begins with this line of a paragraph of count lines. */
        int beginCost(int line, int count, boolean isBehindHeading) {
            int cost = Lines.isWidow(line, count) ? get(costs, WIDOW) : 0;
            cost += Lines.isOrphan(line, count) ? get(costs, ORPHAN) : 0;
            cost += isBehindHeading ? get(costs, HEADING) : 0;
            return cost;
        }

        int settingCost(int setting, int count) {
            return setting == NORMAL ? 0 : count * costOf(setting - 1);
        }
    }

    /** The books as they were ahead of the latest changes, in a ring. */
    private static final class History {
        final Book[] books = new Book[MOST_CHANGES];
        int next = 0;
        int kept = 0;

        History() {
            for (int i = 0; i < books.length; i++) {
                books[i] = new Book();
            }
        }

        void keep(Book book) {
            Book room = bookAt(next);
            if (room != null) {
                room.copyFrom(book);
                next = next + 1 < MOST_CHANGES ? next + 1 : 0;
                kept = Math.min(kept + 1, MOST_CHANGES);
            }
        }

        void bringBack(Book book) {
            next = next > 0 ? next - 1 : MOST_CHANGES - 1;
            kept--;
            Book before = bookAt(next);
            if (before != null) {
                book.copyFrom(before);
            }
        }

        Book bookAt(int index) {
            return index >= 0 && index < books.length ? books[index] : null;
        }
    }

    /** The lines of every paragraph in every setting. */
    private static final class Lines {
        final int[] counts = new int[MOST_PARAGRAPHS * SETTINGS];
        final int[] taken = new int[MOST_PARAGRAPHS * SETTINGS * MOST_WORDS];

        static boolean isWidow(int line, int count) {
            return count >= 2 && line == count - 1;
        }

        static boolean isOrphan(int line, int count) {
            return count >= 2 && line == 1;
        }

        int countOf(int p, int setting) {
            return get(counts, p * SETTINGS + setting);
        }

        int takenBy(int p, int setting, int line) {
            return get(taken, (p * SETTINGS + setting) * MOST_WORDS + line);
        }

        void breakAll(Book book) {
            for (int p = 0; p < book.paragraphs; p++) {
                for (int setting = NORMAL; setting <= LOOSE; setting++) {
                    breakUp(book, p, setting);
                }
            }
        }

        void breakUp(Book book, int p, int setting) {
            int place = p * SETTINGS + setting;
            int holds = book.lineHolds(setting);
            int words = book.wordsOf(p);
            int count = 0;
            int used = 0;
            for (int k = 0; k < words; k++) {
                int length = book.wordAt(p, k);
                if (count > 0 && used + 1 + length <= holds) {
                    used += 1 + length;
                } else {
                    count++;
                    used = length;
                }
                put(taken, place * MOST_WORDS + count - 1, used);
            }
            put(counts, place, count);
        }
    }

    /** Settings and pages: where each page begins and how many lines it has. */
    private static final class Plan {
        int pages = 0;
        int paragraphs = 0;
        final int[] settings = new int[MOST_PARAGRAPHS];
        final int[] counts = new int[MOST_PARAGRAPHS];
        final int[] firstParagraphs = new int[MOST_LINES];
        final int[] firstLines = new int[MOST_LINES];
        final int[] sizes = new int[MOST_LINES];

        void clear() {
            pages = 0;
            paragraphs = 0;
        }

        void setParagraph(int p, int setting, int count) {
            put(settings, p, setting);
            put(counts, p, count);
            paragraphs = p + 1;
        }

        void addLine(int p, int line, boolean isPageEnd) {
            if (isPageEnd || pages == 0) {
                put(firstParagraphs, pages, p);
                put(firstLines, pages, line);
                put(sizes, pages, 0);
                pages++;
            }
            put(sizes, pages - 1, linesOnLastPage() + 1);
        }

        int linesOnLastPage() {
            return get(sizes, pages - 1);
        }

        int settingOf(int p) {
            return get(settings, p);
        }

        int linesOf(int p) {
            return get(counts, p);
        }

        int firstParagraph(int page) {
            return get(firstParagraphs, page);
        }

        int firstLine(int page) {
            return get(firstLines, page);
        }

        int pageWith(int p, int line) {
            int found = 0;
            for (int page = 0; page < pages; page++) {
                int first = firstParagraph(page);
                if (first < p || first == p && firstLine(page) <= line) {
                    found = page;
                }
            }
            return found;
        }

        boolean isWidow(int page) {
            return page > 0 && Lines.isWidow(firstLine(page), linesOf(firstParagraph(page)));
        }

        boolean isOrphan(int page) {
            return page > 0 && Lines.isOrphan(firstLine(page), linesOf(firstParagraph(page)));
        }

        boolean isBehindHeading(Book book, int page) {
            int p = firstParagraph(page);
            return page > 0 && p > 0 && firstLine(page) == 0 && book.isHeading(p - 1);
        }

        int beginCost(Book book, int page) {
            if (page == 0) {
                return 0;
            }
            return book.beginCost(firstLine(page), linesOf(firstParagraph(page)), isBehindHeading(book, page));
        }

        int endCost(Book book, int page) {
            if (page == pages - 1) {
                return 0;
            }
            boolean isStart = firstLine(page + 1) == 0 && book.beginsPage(firstParagraph(page + 1));
            return book.endCost(get(sizes, page), isStart);
        }

        int missingLines(Book book, int page) {
            return page == pages - 1 ? 0 : book.height - get(sizes, page);
        }

        int settingCosts(Book book) {
            int sum = 0;
            for (int p = 0; p < paragraphs; p++) {
                sum += book.settingCost(settingOf(p), linesOf(p));
            }
            return sum;
        }

        int pageNumber(Book book, int page, int what) {
            switch (what) {
                case 0:
                    return get(sizes, page);
                case 1:
                    return firstParagraph(page);
                case 2:
                    return firstLine(page);
                case 3:
                    return beginCost(book, page);
                default:
                    return endCost(book, page);
            }
        }

        int numberOf(Book book, int what) {
            int sum = what == 0 ? settingCosts(book) : 0;
            for (int page = 0; page < pages; page++) {
                switch (what) {
                    case 0:
                        sum += beginCost(book, page) + endCost(book, page);
                        break;
                    case 1:
                        sum++;
                        break;
                    case 2:
                        sum += isWidow(page) ? 1 : 0;
                        break;
                    case 3:
                        sum += isOrphan(page) ? 1 : 0;
                        break;
                    case 4:
                        sum += isBehindHeading(book, page) ? 1 : 0;
                        break;
                    case 5:
                        sum += missingLines(book, page);
                        break;
                    default:
                        sum += get(sizes, page);
                        break;
                }
            }
            return sum;
        }
    }

    /**
     * Finds the best plan from the end of the book backward: what the rest costs at the least depends only on the
     * line that is due and on the lines that the present page has. Of equal choices the one that is ahead is taken
     * at each decision, so that the first of the cheapest plans comes out.
     */
    private static final class Planner {
        private static final int SPAN = MOST_HEIGHT + 1;

        // By paragraph and lines on the present page: what the rest costs, and the paragraph's setting in it.
        final int[] restOfBook = new int[(MOST_PARAGRAPHS + 1) * SPAN];
        final int[] chosen = new int[MOST_PARAGRAPHS * SPAN];
        // By line of the paragraph in hand and lines on the present page: what the rest costs, 1 if the page ends.
        final int[] rest = new int[(MOST_WORDS + 1) * SPAN];
        final int[] ends = new int[MOST_WORDS * SPAN];

        void lay(Book book, Lines lines, Plan plan) {
            for (int n = 0; n <= book.height; n++) {
                put(restOfBook, book.paragraphs * SPAN + n, 0);
            }
            for (int p = book.paragraphs - 1; p >= 0; p--) {
                chooseSettings(book, lines, p);
            }
            plan.clear();
            for (int p = 0; p < book.paragraphs; p++) {
                int setting = get(chosen, p * SPAN + plan.linesOnLastPage());
                int count = lines.countOf(p, setting);
                weigh(book, p, count);
                plan.setParagraph(p, setting, count);
                for (int line = 0; line < count; line++) {
                    plan.addLine(p, line, get(ends, line * SPAN + plan.linesOnLastPage()) == 1);
                }
            }
        }

        void chooseSettings(Book book, Lines lines, int p) {
            int fixed = book.fixedTo(p);
            int from = fixed == FREE ? NORMAL : fixed;
            int to = fixed == FREE ? LOOSE : fixed;
            for (int setting = from; setting <= to; setting++) {
                int count = lines.countOf(p, setting);
                int own = book.settingCost(setting, count);
                weigh(book, p, count);
                for (int n = 0; n <= book.height; n++) {
                    int cost = own + get(rest, n);
                    int place = p * SPAN + n;
                    if (setting == from || cost < get(restOfBook, place)) {
                        put(restOfBook, place, cost);
                        put(chosen, place, setting);
                    }
                }
            }
        }

        /** Fills rest and ends for a paragraph of count lines. */
        void weigh(Book book, int p, int count) {
            boolean beginsPage = book.beginsPage(p);
            boolean isBehindHeading = p > 0 && book.isHeading(p - 1);
            for (int n = 0; n <= book.height; n++) {
                put(rest, count * SPAN + n, get(restOfBook, (p + 1) * SPAN + n));
            }
            for (int line = count - 1; line >= 0; line--) {
                boolean isFirst = line == 0;
                int behind = (line + 1) * SPAN;
                int onNewPage = book.beginCost(line, count, isFirst && isBehindHeading) + get(rest, behind + 1);
                for (int n = 0; n <= book.height; n++) {
                    int ended = book.endCost(n, isFirst && beginsPage) + onNewPage;
                    int goneOn = get(rest, behind + n + 1);
                    boolean isEnd = book.mustEnd(n, isFirst && beginsPage) || book.canEnd(n) && ended < goneOn;
                    put(rest, line * SPAN + n, isEnd ? ended : goneOn);
                    put(ends, line * SPAN + n, isEnd ? 1 : 0);
                }
            }
        }
    }

    /** Reads a setup text into a draft, up to its first error. */
    private static final class Reader {
        // Above every range, and ten times it is still an int.
        private static final int LARGE = 100000;

        final Book draft = new Book();
        int[] text = new int[0];
        int length = 0;
        int at = 0;
        int error = 0;
        int errorOffset = -1;
        boolean hasCosts = false;
        boolean hasLimit = false;

        void read(int[] bytes, int byteCount) {
            text = bytes;
            length = byteCount;
            at = 0;
            error = 0;
            errorOffset = -1;
            hasCosts = false;
            hasLimit = false;
            draft.reset();
            readHead();
            // A statement takes a byte at least.
            for (int i = 0; i < byteCount && error == 0 && nextByte() >= 0; i++) {
                readStatement();
            }
        }

        void readHead() {
            if (!takesWord("book")) {
                fail(SYNTAX_ERROR, at);
            }
            draft.width = takeNumber(10, 60);
            draft.height = takeNumber(2, MOST_HEIGHT);
            draft.slack = takeNumber(0, 9);
            takeSemicolon();
        }

        void readStatement() {
            int start = at;
            if (takesWord("costs")) {
                readCosts(start);
            } else if (takesWord("limit")) {
                readLimit(start);
            } else if (takesWord("para")) {
                readParagraph(start, false);
            } else if (takesWord("heading")) {
                readParagraph(start, true);
            } else {
                fail(SYNTAX_ERROR, start);
            }
            takeSemicolon();
        }

        void readCosts(int start) {
            if (hasCosts) {
                fail(SYNTAX_ERROR, start);
            }
            hasCosts = true;
            for (int which = 0; which < COSTS; which++) {
                draft.setCostOf(which, takeNumber(0, MOST_COST));
            }
        }

        void readLimit(int start) {
            if (hasLimit) {
                fail(SYNTAX_ERROR, start);
            }
            hasLimit = true;
            draft.limit = takeNumber(0, 9);
        }

        void readParagraph(int start, boolean isHeading) {
            if (draft.paragraphs >= MOST_PARAGRAPHS) {
                fail(TOO_MANY, start);
                return;
            }
            int p = draft.paragraphs;
            draft.openParagraph(p, isHeading, takesWord("page"));
            for (int k = 0; k <= MOST_WORDS && error == 0 && (k == 0 || isDigit(nextByte())); k++) {
                int first = at;
                int word = takeNumber(1, draft.longestWord());
                if (k == MOST_WORDS) {
                    fail(TOO_MANY, first);
                } else {
                    draft.addWord(p, word);
                }
            }
        }

        /** Skips spaces; returns the byte behind them, -1 at the end of the text. */
        int nextByte() {
            while (at < length && get(text, at) == ' ') {
                at++;
            }
            return at < length ? get(text, at) : -1;
        }

        /** Takes the next token if it is this word. */
        boolean takesWord(String word) {
            nextByte();
            int end = at;
            while (end < length && isLetter(get(text, end))) {
                end++;
            }
            if (end - at != word.length()) {
                return false;
            }
            for (int i = 0; i < word.length(); i++) {
                if (get(text, at + i) != word.charAt(i)) {
                    return false;
                }
            }
            at = end;
            return true;
        }

        int takeNumber(int least, int most) {
            int next = nextByte();
            int start = at;
            if (!isDigit(next)) {
                fail(SYNTAX_ERROR, start);
                return least;
            }
            int value = 0;
            while (at < length && isDigit(get(text, at))) {
                value = Math.min(LARGE, 10 * value + get(text, at) - '0');
                at++;
            }
            if (value < least || value > most) {
                fail(OUT_OF_RANGE, start);
                return least;
            }
            return value;
        }

        void takeSemicolon() {
            if (nextByte() == ';') {
                at++;
            } else {
                fail(SYNTAX_ERROR, at);
            }
        }

        // What follows the first error is not looked at: it lies behind it.
        void fail(int code, int offset) {
            if (error == 0) {
                error = code;
                errorOffset = offset;
            }
        }

        static boolean isDigit(int sign) {
            return sign >= '0' && sign <= '9';
        }

        static boolean isLetter(int sign) {
            return sign >= 'a' && sign <= 'z';
        }
    }
}
