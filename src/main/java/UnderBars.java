import java.util.Arrays;

/**
 * Names blacked out on pages that are to be opened, and what can still be read under the bars.
 *
 * The words used here (name, place, bar, twins, reading, told, kept ..) are those of the document.
 * Sets are whole numbers, bit k for k.
 */
public final class UnderBars {
    public static final int NONE = -1, UNKNOWN = -1001, OUTSIDE = -1002, NOT = -1003, FULL = -1004, LARGE = -1005;

    private static final int FOUNTS = 2;
    private static final int LETTERS = 26;
    private static final int FIRST_WIDTH = 5;
    private static final int WIDEST_LETTER = 20;
    private static final int MOST_NAMES = 10;
    private static final int LONGEST_NAME = 12;
    private static final int OFFICES = 4;
    private static final int LAST_DAY = 99;
    private static final int MOST_WEIGHT = 9;
    private static final int MOST_SLACK = 9;
    private static final int MOST_BYTES = 120;
    private static final int MOST_PAGES = 8;
    private static final int PAGE_PLACES = 4;
    private static final int MOST_PLACES = MOST_PAGES * PAGE_PLACES;
    private static final int MOST_BARS = 10;
    private static final int WIDEST_BAR = 200;
    private static final int MOST_PAIRS = 10;
    private static final int READERS = 4;
    private static final int LOOKED_AT = 8;
    private static final int MOST_SLOTS = MOST_BARS + LOOKED_AT;
    private static final int MOST_TRIES = 3000;
    private static final int MOST_STEPS = 100000;
    private static final int ALL_READINGS = MOST_TRIES;
    private static final int LONG_BYTES = 8;
    private static final int BYTE_BITS = 8;
    private static final int MOST_FIGURES = 3;

    private static final int NO_FAULT = 0;
    private static final int CANNOT_STAND = 1;
    private static final int WRONG_NUMBER = 2;
    private static final int WRONG_NAME = 3;
    private static final int FIFTH_PLACE = 4;
    private static final int ELEVENTH_BAR = 5;
    private static final int FAULT_BASE = -10;

    private final Text text = new Text();
    private final Names names = new Names();
    private final Pages pages = new Pages();
    private final PageParser parser = new PageParser(text, names);
    private final Readers readers = new Readers();
    private final Slots slots = new Slots();
    private final Layout layout = new Layout(names, pages, slots);
    private final Search search = new Search(names, slots);
    private int slackNow = 0;
    private int keptNow = 0;
    private int faultAt = NONE;

    public UnderBars() {
    }

    // ---- founts, names

    public int wide(int fount, int letter, int v) {
        if (!within(fount, 0, FOUNTS - 1) || !within(letter, 0, LETTERS - 1) || !within(v, 1, WIDEST_LETTER)) {
            return OUTSIDE;
        }
        return names.widenLetter(fount, letter, v);
    }

    public int feed(int n, long bytes) {
        if (!within(n, 1, LONG_BYTES)) {
            return OUTSIDE;
        }
        if (text.size + n > MOST_BYTES) {
            return FULL;
        }
        for (int k = n - 1; k >= 0; k--) {
            text.append((int) (bytes >>> (k * BYTE_BITS)) & 255);
        }
        return text.size;
    }

    public int name() {
        int answer = addName();
        if (answer != FULL) {
            text.size = 0;
        }
        return answer;
    }

    public int offices(int n, int set) {
        if (!names.isKnown(n)) {
            return UNKNOWN;
        }
        if (!within(set, 0, allBelow(OFFICES))) {
            return OUTSIDE;
        }
        int was = names.held[n];
        names.held[n] = set;
        return was;
    }

    public int there(int n, int a, int b) {
        if (!names.isKnown(n)) {
            return UNKNOWN;
        }
        if (!within(a, 0, LAST_DAY) || !within(b, a, LAST_DAY)) {
            return OUTSIDE;
        }
        int was = names.to[n] - names.from[n] + 1;
        names.from[n] = a;
        names.to[n] = b;
        return was;
    }

    public int weight(int n, int v) {
        if (!names.isKnown(n)) {
            return UNKNOWN;
        }
        if (!within(v, 1, MOST_WEIGHT)) {
            return OUTSIDE;
        }
        int was = names.weights[n];
        names.weights[n] = v;
        return was;
    }

    public int never(int n, int m, boolean is) {
        if (!names.isKnown(n) || !names.isKnown(m) || n == m) {
            return UNKNOWN;
        }
        return names.setApart(n, m, is) ? 1 : 0;
    }

    public int slack(int v) {
        if (!within(v, 0, MOST_SLACK)) {
            return OUTSIDE;
        }
        int was = slackNow;
        slackNow = v;
        return was;
    }

    public int told(int n, int what) {
        if (!names.isKnown(n)) {
            return UNKNOWN;
        }
        switch (what) {
            case 0:
            case 1:
                return names.widthOf(n, what);
            case 2:
                return names.held[n];
            case 3:
                return names.from[n];
            case 4:
                return names.to[n];
            case 5:
                return names.weights[n];
            case 6:
                return names.lengths[n];
            default:
                return OUTSIDE;
        }
    }

    public int count(int what) {
        switch (what) {
            case 0:
                return names.size;
            case 1:
                return pages.size;
            case 2:
                return pages.places;
            case 3:
                return pages.bars;
            case 4:
                return pages.pairs;
            case 5:
                return names.pairsApart();
            case 6:
                return text.size;
            case 7:
                return slackNow;
            case 8:
                return Integer.bitCount(keptNow);
            default:
                return OUTSIDE;
        }
    }

    // ---- pages

    public int page() {
        if (pages.size >= MOST_PAGES) {
            return FULL;
        }
        parser.parse(pages.bars);
        text.size = 0;
        faultAt = parser.faultAt;
        if (parser.fault != NO_FAULT) {
            return FAULT_BASE - parser.fault;
        }
        pages.add(parser);
        return pages.size - 1;
    }

    public int fault() {
        return faultAt;
    }

    public int place(int p, int what) {
        if (!within(p, 0, pages.places - 1)) {
            return UNKNOWN;
        }
        switch (what) {
            case 0:
                return pages.pageOf[p];
            case 1:
                return pages.officeOf[p];
            case 2:
                return pages.shownAt[p];
            case 3:
                return pages.barAt[p];
            case 4:
                return layout.widthAt(p);
            default:
                return OUTSIDE;
        }
    }

    public int twins(int b, int c) {
        if (!pages.isBar(b) || !pages.isBar(c) || b == c) {
            return UNKNOWN;
        }
        if (has(pages.twinsOf[b], c)) {
            return NOT;
        }
        if (pages.pairs >= MOST_PAIRS) {
            return FULL;
        }
        pages.pair(b, c);
        return pages.pairs;
    }

    // ---- readings

    public int readings() {
        return countReadings(0);
    }

    public int reading(int i, int b) {
        if (!pages.isBar(b)) {
            return UNKNOWN;
        }
        if (i < 0) {
            return OUTSIDE;
        }
        goThrough(0, i);
        if (search.tally.found > i) {
            return search.given[b];
        }
        return search.large ? LARGE : NONE;
    }

    public int may(int b) {
        return pages.isBar(b) ? mayToReaders(0, b) : UNKNOWN;
    }

    public int fits(int b) {
        return pages.isBar(b) ? layout.fittingAt(pages.placeOf[b], slackNow) : UNKNOWN;
    }

    public long odds(int b, int n, int what) {
        if (!pages.isBar(b) || !names.isKnown(n)) {
            return UNKNOWN;
        }
        if (!within(what, 0, 1)) {
            return OUTSIDE;
        }
        search.tally.ask(b, n);
        goThrough(0, ALL_READINGS);
        if (search.large) {
            return LARGE;
        }
        long part = search.tally.part;
        long total = search.tally.total;
        long divisor = commonDivisor(total, part);
        if (search.tally.found == 0 || divisor == 0) {
            return NOT;
        }
        return (what == 0 ? part : total) / divisor;
    }

    public int on(int n) {
        if (!names.isKnown(n)) {
            return UNKNOWN;
        }
        if (has(layout.shownOn(allBelow(pages.size), 0), n)) {
            return 2;
        }
        goThrough(0, ALL_READINGS);
        if (search.large) {
            return LARGE;
        }
        if (search.tally.found > 0 && has(search.tally.inEach, n)) {
            return 2;
        }
        return has(search.tally.inSome(slots.size), n) ? 1 : 0;
    }

    // ---- readers

    public int away(int r, int set) {
        if (!within(r, 0, READERS - 1) || !names.areKnown(set)) {
            return UNKNOWN;
        }
        int was = readers.absent[r];
        readers.absent[r] = set;
        return was;
    }

    public int knows(int r, int b, int n) {
        if (!within(r, 0, READERS - 1) || !pages.isBar(b) || n != NONE && !names.isKnown(n)) {
            return UNKNOWN;
        }
        return readers.learn(r, b, n);
    }

    public int together(int readers) {
        return areReaders(readers) ? countReadings(readers) : UNKNOWN;
    }

    public int sees(int readers, int b) {
        return areReaders(readers) && pages.isBar(b) ? mayToReaders(readers, b) : UNKNOWN;
    }

    // ---- kept

    public int keep(int set) {
        if (!names.areKnown(set)) {
            return UNKNOWN;
        }
        int was = keptNow;
        keptNow = set;
        return was;
    }

    public int betrayed(int readers) {
        if (!areReaders(readers)) {
            return UNKNOWN;
        }
        goThrough(readers, ALL_READINGS);
        return search.large ? LARGE : betrayedNow();
    }

    public int opened(int set) {
        if ((set & ~allBelow(pages.size)) != 0) {
            return UNKNOWN;
        }
        layout.measure(slackNow);
        return tryToOpen(set);
    }

    public int most() {
        layout.measure(slackNow);
        for (int many = pages.size; many >= 0; many--) {
            for (int set = 0; set <= allBelow(pages.size); set++) {
                int answer = Integer.bitCount(set) == many ? tryToOpen(set) : 0;
                if (answer != 0) {
                    return answer == LARGE ? LARGE : set;
                }
            }
        }
        return 0;
    }

    public int fewest() {
        layout.measure(slackNow);
        int looked = Math.min(pages.opens, LOOKED_AT);
        for (int many = 0; many <= looked; many++) {
            for (int set = 0; set <= allBelow(looked); set++) {
                int answer = Integer.bitCount(set) == many ? tryToBar(set) : 0;
                if (answer != 0) {
                    return answer == LARGE ? LARGE : set;
                }
            }
        }
        return NONE;
    }

    public int wider() {
        for (int v = slackNow; v <= MOST_SLACK; v++) {
            layout.measure(v);
            layout.lay(allBelow(pages.size), 0);
            search.go(ALL_READINGS);
            if (search.large) {
                return LARGE;
            }
            if (betrayedNow() == 0) {
                return v;
            }
        }
        return NONE;
    }

    // ---- what several calls share

    private int addName() {
        if (!text.isRowOfLetters() || text.size > LONGEST_NAME) {
            return OUTSIDE;
        }
        if (names.find(text, 0, text.size) != NONE) {
            return NOT;
        }
        if (names.size >= MOST_NAMES) {
            return FULL;
        }
        names.add(text);
        return names.size - 1;
    }

    /** With all pages laid out the slots are the bars, number by number. */
    private void goThrough(int readerSet, int last) {
        layout.measure(slackNow);
        layout.lay(allBelow(pages.size), 0);
        for (int b = 0; b < pages.bars; b++) {
            slots.allowed[b] &= readers.leave(readerSet, b);
        }
        search.go(last);
    }

    private int countReadings(int readerSet) {
        goThrough(readerSet, ALL_READINGS);
        return search.large ? LARGE : search.tally.found;
    }

    private int mayToReaders(int readerSet, int b) {
        goThrough(readerSet, ALL_READINGS);
        return search.large ? LARGE : search.tally.may[b];
    }

    private int betrayedNow() {
        return search.tally.toldNames(slots.size) & keptNow;
    }

    /** 1, 0 or LARGE. */
    private int tryToOpen(int pageSet) {
        if ((layout.shownOn(pageSet, 0) & keptNow) != 0) {
            return 0;
        }
        layout.lay(pageSet, 0);
        search.go(ALL_READINGS);
        if (search.large) {
            return LARGE;
        }
        return search.tally.found > 0 && betrayedNow() == 0 ? 1 : 0;
    }

    /** 1, 0 or LARGE: here, unlike with pages to be opened, no reading is asked for. */
    private int tryToBar(int openSet) {
        int all = allBelow(pages.size);
        if ((layout.shownOn(all, openSet) & keptNow) != 0) {
            return 0;
        }
        layout.lay(all, openSet);
        search.go(ALL_READINGS);
        if (search.large) {
            return LARGE;
        }
        return betrayedNow() == 0 ? 1 : 0;
    }

    private static boolean areReaders(int set) {
        return within(set, 0, allBelow(READERS));
    }

    private static boolean within(int v, int least, int greatest) {
        return v >= least && v <= greatest;
    }

    private static boolean has(int set, int k) {
        return (set >> k & 1) != 0;
    }

    private static int allBelow(int k) {
        return (1 << k) - 1;
    }

    private static long commonDivisor(long a, long b) {
        long greater = a;
        long lesser = b;
        for (int step = 0; step < MOST_STEPS && lesser != 0; step++) {
            long rest = greater % lesser;
            greater = lesser;
            lesser = rest;
        }
        return greater;
    }

    /** The bytes fed and not yet used. */
    private static final class Text {
        final int[] bytes = new int[MOST_BYTES];
        int size = 0;

        void append(int value) {
            if (size < MOST_BYTES) {
                bytes[size] = value;
                size++;
            }
        }

        /** NONE behind the end, which is no byte. */
        int at(int i) {
            return i >= 0 && i < size ? bytes[i] : NONE;
        }

        boolean isLetter(int i) {
            return within(at(i), 'a', 'z');
        }

        boolean isFigure(int i) {
            return within(at(i), '0', '9');
        }

        /** The first byte from i on that is no letter. */
        int endOfWord(int i) {
            int end = i;
            while (end < size && isLetter(end)) {
                end++;
            }
            return end;
        }

        boolean isRowOfLetters() {
            return size > 0 && endOfWord(0) == size;
        }
    }

    /** The names with all that is known of them, and the widths of the letters. */
    private static final class Names {
        final int[] letterWidths = new int[FOUNTS * LETTERS];
        final int[] letters = new int[MOST_NAMES * LONGEST_NAME];
        final int[] lengths = new int[MOST_NAMES];
        final int[] widths = new int[FOUNTS * MOST_NAMES];
        final int[] held = new int[MOST_NAMES];
        final int[] from = new int[MOST_NAMES];
        final int[] to = new int[MOST_NAMES];
        final int[] weights = new int[MOST_NAMES];
        final int[] apart = new int[MOST_NAMES];
        int size = 0;

        Names() {
            Arrays.fill(letterWidths, FIRST_WIDTH);
        }

        boolean isKnown(int n) {
            return within(n, 0, size - 1);
        }

        boolean areKnown(int set) {
            return (set & ~allBelow(size)) == 0;
        }

        int widenLetter(int fount, int letter, int v) {
            int was = letterWidths[fount * LETTERS + letter];
            letterWidths[fount * LETTERS + letter] = v;
            for (int n = 0; n < size; n++) {
                measureName(n, fount);
            }
            return was;
        }

        /** Widths are kept, since every search asks for them again and again. */
        private void measureName(int n, int fount) {
            int sum = 0;
            for (int k = 0; k < lengths[n]; k++) {
                sum += letterWidths[fount * LETTERS + letters[n * LONGEST_NAME + k]];
            }
            widths[fount * MOST_NAMES + n] = sum;
        }

        int widthOf(int n, int fount) {
            return widths[fount * MOST_NAMES + n];
        }

        /** The name with the letters of the text from start to end; NONE. */
        int find(Text text, int start, int end) {
            for (int n = 0; n < size; n++) {
                if (lengths[n] == end - start && isWritten(n, text, start)) {
                    return n;
                }
            }
            return NONE;
        }

        private boolean isWritten(int n, Text text, int start) {
            for (int k = 0; k < lengths[n]; k++) {
                if (text.at(start + k) != 'a' + letters[n * LONGEST_NAME + k]) {
                    return false;
                }
            }
            return true;
        }

        /** The text has to be a row of letters that is not too long. */
        void add(Text text) {
            if (size >= MOST_NAMES || !text.isRowOfLetters() || text.size > LONGEST_NAME) {
                return;
            }
            int n = size;
            size++;
            lengths[n] = text.size;
            for (int k = 0; k < text.size; k++) {
                letters[n * LONGEST_NAME + k] = text.at(k) - 'a';
            }
            for (int fount = 0; fount < FOUNTS; fount++) {
                measureName(n, fount);
            }
            held[n] = allBelow(OFFICES);
            from[n] = 0;
            to[n] = LAST_DAY;
            weights[n] = 1;
        }

        /** Whether they were apart till now. */
        boolean setApart(int n, int m, boolean is) {
            boolean was = has(apart[n], m);
            if (was != is) {
                apart[n] ^= 1 << m;
                apart[m] ^= 1 << n;
            }
            return was;
        }

        int pairsApart() {
            int both = 0;
            for (int n = 0; n < size; n++) {
                both += Integer.bitCount(apart[n]);
            }
            return both / 2;
        }

        /** The names that can't stand under a bar on a page on which n is. */
        int shutOutBy(int n) {
            return 1 << n | apart[n];
        }

        /** The names that hold an office and were there on a day. */
        int servingOn(int office, int day) {
            int set = 0;
            for (int n = 0; n < size; n++) {
                if (has(held[n], office) && within(day, from[n], to[n])) {
                    set |= 1 << n;
                }
            }
            return set;
        }

        int asWideAs(int width, int fount, int slack) {
            int set = 0;
            for (int n = 0; n < size; n++) {
                if (within(widthOf(n, fount), width - slack, width + slack)) {
                    set |= 1 << n;
                }
            }
            return set;
        }
    }

    /** Reads the text as a page; behind the first fault nothing is read any more. */
    private static final class PageParser {
        final Text text;
        final Names names;
        final int[] offices = new int[PAGE_PLACES];
        final int[] shown = new int[PAGE_PLACES];
        final int[] widths = new int[PAGE_PLACES];
        int at;
        int fault;
        int faultAt;
        int day;
        int fount;
        int size;
        int bars;
        int shownSet;

        PageParser(Text text, Names names) {
            this.text = text;
            this.names = names;
        }

        void parse(int barsBefore) {
            at = 0;
            fault = NO_FAULT;
            faultAt = NONE;
            size = 0;
            bars = barsBefore;
            shownSet = 0;
            takeWord("day");
            day = takeNumber(0, LAST_DAY);
            takeWord("fount");
            fount = takeNumber(0, FOUNTS - 1);
            takeSign(':');
            boolean more = true;
            // one place beyond the last that may be: its own fault is told where it begins
            for (int k = 0; k <= PAGE_PLACES && more && fault == NO_FAULT; k++) {
                takePlace(k);
                more = takeComma();
            }
        }

        private void fail(int kind, int where) {
            if (fault == NO_FAULT) {
                fault = kind;
                faultAt = where;
            }
        }

        private void skipBlanks() {
            while (at < text.size && text.at(at) == ' ') {
                at++;
            }
        }

        private void takeSign(int sign) {
            skipBlanks();
            if (text.at(at) != sign) {
                fail(CANNOT_STAND, at);
            } else {
                at++;
            }
        }

        private void takeWord(String word) {
            skipBlanks();
            int end = text.endOfWord(at);
            boolean same = end - at == word.length();
            for (int k = 0; k < word.length() && same; k++) {
                same = text.at(at + k) == word.charAt(k);
            }
            if (!same) {
                fail(CANNOT_STAND, at);
            }
            at = end;
        }

        private int takeNumber(int least, int greatest) {
            skipBlanks();
            int start = at;
            int value = 0;
            while (at < text.size && text.isFigure(at)) {
                // further figures are a fault anyway, and could run over
                if (at - start < MOST_FIGURES) {
                    value = value * 10 + text.at(at) - '0';
                }
                at++;
            }
            if (at == start) {
                fail(CANNOT_STAND, at);
            } else if (at - start > MOST_FIGURES || !within(value, least, greatest)) {
                fail(WRONG_NUMBER, start);
            }
            return value;
        }

        private void takePlace(int k) {
            skipBlanks();
            int start = at;
            takeWord("office");
            if (k >= PAGE_PLACES) {
                fail(FIFTH_PLACE, start);
            }
            int office = takeNumber(0, OFFICES - 1);
            skipBlanks();
            if (fault != NO_FAULT || k >= PAGE_PLACES) {
                return;
            }
            offices[k] = office;
            size = k + 1;
            if (text.isLetter(at)) {
                takeShown(k);
            } else if (text.at(at) == '[') {
                takeBar(k);
            } else {
                fail(CANNOT_STAND, at);
            }
        }

        private void takeShown(int k) {
            int end = text.endOfWord(at);
            int n = names.find(text, at, end);
            if (n == NONE || has(shownSet, n)) {
                fail(WRONG_NAME, at);
                return;
            }
            shownSet |= 1 << n;
            shown[k] = n;
            widths[k] = 0;
            at = end;
        }

        private void takeBar(int k) {
            if (bars >= MOST_BARS) {
                fail(ELEVENTH_BAR, at);
                return;
            }
            bars++;
            at++;
            shown[k] = NONE;
            widths[k] = takeNumber(1, WIDEST_BAR);
            takeSign(']');
        }

        /** False at the end of the text. */
        private boolean takeComma() {
            skipBlanks();
            if (at >= text.size) {
                return false;
            }
            takeSign(',');
            return true;
        }
    }

    /** The pages with their places and bars, as they came. */
    private static final class Pages {
        final int[] dayOf = new int[MOST_PAGES];
        final int[] fountOf = new int[MOST_PAGES];
        final int[] pageOf = new int[MOST_PLACES];
        final int[] officeOf = new int[MOST_PLACES];
        final int[] shownAt = new int[MOST_PLACES];
        final int[] openAt = new int[MOST_PLACES];
        final int[] barAt = new int[MOST_PLACES];
        final int[] barWidth = new int[MOST_PLACES];
        final int[] placeOf = new int[MOST_BARS];
        final int[] twinsOf = new int[MOST_BARS];
        int size = 0;
        int places = 0;
        int opens = 0;
        int bars = 0;
        int pairs = 0;

        boolean isBar(int b) {
            return within(b, 0, bars - 1);
        }

        void add(PageParser parsed) {
            if (size >= MOST_PAGES) {
                return;
            }
            dayOf[size] = parsed.day;
            fountOf[size] = parsed.fount;
            for (int k = 0; k < parsed.size && k < PAGE_PLACES && places < MOST_PLACES; k++) {
                addPlace(parsed.offices[k], parsed.shown[k], parsed.widths[k]);
            }
            size++;
        }

        private void addPlace(int office, int shown, int width) {
            int p = places;
            places++;
            pageOf[p] = size;
            officeOf[p] = office;
            shownAt[p] = shown;
            barWidth[p] = width;
            openAt[p] = NONE;
            barAt[p] = NONE;
            if (shown != NONE) {
                openAt[p] = opens;
                opens++;
            } else if (bars < MOST_BARS) {
                barAt[p] = bars;
                placeOf[bars] = p;
                bars++;
            }
        }

        void pair(int b, int c) {
            twinsOf[b] |= 1 << c;
            twinsOf[c] |= 1 << b;
            pairs++;
        }

        /** Open places barred as well are told by a set of the first ones, by their order. */
        boolean isShown(int p, int barredToo) {
            int open = openAt[p];
            return open != NONE && !(open < LOOKED_AT && has(barredToo, open));
        }
    }

    /** What readers know beyond the pages. */
    private static final class Readers {
        final int[] absent = new int[READERS];
        final int[] known = new int[READERS * MOST_BARS];

        Readers() {
            Arrays.fill(known, NONE);
        }

        /** What was known of the bar till now. */
        int learn(int r, int b, int n) {
            int was = known[r * MOST_BARS + b];
            known[r * MOST_BARS + b] = n;
            return was;
        }

        /** The names that some readers together leave for a bar: none, if they know unlike ones. */
        int leave(int readerSet, int b) {
            int set = allBelow(MOST_NAMES);
            for (int r = 0; r < READERS; r++) {
                if (has(readerSet, r)) {
                    set &= leftBy(r, b);
                }
            }
            return set;
        }

        private int leftBy(int r, int b) {
            int n = known[r * MOST_BARS + b];
            return (n == NONE ? allBelow(MOST_NAMES) : 1 << n) & ~absent[r];
        }
    }

    /** The bars that one search goes through, in order; those of one page are side by side. */
    private static final class Slots {
        final int[] pageOf = new int[MOST_SLOTS];
        final int[] allowed = new int[MOST_SLOTS];
        final int[] twinsAhead = new int[MOST_SLOTS];
        int size = 0;

        void add(int page, int names) {
            if (size < MOST_SLOTS) {
                pageOf[size] = page;
                allowed[size] = names;
                twinsAhead[size] = 0;
                size++;
            }
        }

        boolean isBesideTheOneAhead(int s) {
            return s > 0 && pageOf[s] == pageOf[s - 1];
        }
    }

    /** Lays bars of some pages out for the search. */
    private static final class Layout {
        final Names names;
        final Pages pages;
        final Slots slots;
        final int[] fitting = new int[MOST_PLACES];
        final int[] shutOut = new int[MOST_PAGES];
        final int[] slotOf = new int[MOST_BARS];

        Layout(Names names, Pages pages, Slots slots) {
            this.names = names;
            this.pages = pages;
            this.slots = slots;
        }

        int widthAt(int p) {
            int n = pages.shownAt[p];
            return n == NONE ? pages.barWidth[p] : names.widthOf(n, pages.fountOf[pages.pageOf[p]]);
        }

        /** The names that fit a place, if it is barred, by width, office and day alone. */
        int fittingAt(int p, int slack) {
            int page = pages.pageOf[p];
            return names.asWideAs(widthAt(p), pages.fountOf[page], slack)
                    & names.servingOn(pages.officeOf[p], pages.dayOf[page]);
        }

        /** Done once ahead of many layouts: what fits is the same in all of them. */
        void measure(int slack) {
            for (int p = 0; p < pages.places; p++) {
                fitting[p] = fittingAt(p, slack);
            }
        }

        int shownOn(int pageSet, int barredToo) {
            int set = 0;
            for (int p = 0; p < pages.places; p++) {
                if (has(pageSet, pages.pageOf[p]) && pages.isShown(p, barredToo)) {
                    set |= 1 << pages.shownAt[p];
                }
            }
            return set;
        }

        void lay(int pageSet, int barredToo) {
            shutOutByShown(barredToo);
            slots.size = 0;
            for (int p = 0; p < pages.places; p++) {
                int page = pages.pageOf[p];
                if (has(pageSet, page) && !pages.isShown(p, barredToo)) {
                    noteSlot(pages.barAt[p]);
                    slots.add(page, fitting[p] & ~shutOut[page]);
                }
            }
            layTwins(pageSet);
        }

        private void shutOutByShown(int barredToo) {
            Arrays.fill(shutOut, 0);
            for (int p = 0; p < pages.places; p++) {
                if (pages.isShown(p, barredToo)) {
                    shutOut[pages.pageOf[p]] |= names.shutOutBy(pages.shownAt[p]);
                }
            }
        }

        private void noteSlot(int bar) {
            if (bar != NONE) {
                slotOf[bar] = slots.size;
            }
        }

        private void layTwins(int pageSet) {
            for (int b = 0; b < pages.bars; b++) {
                for (int c = 0; c < b; c++) {
                    if (has(pages.twinsOf[b], c) && isLaid(b, pageSet) && isLaid(c, pageSet)) {
                        slots.twinsAhead[slotOf[b]] |= 1 << slotOf[c];
                    }
                }
            }
        }

        private boolean isLaid(int b, int pageSet) {
            return has(pageSet, pages.pageOf[pages.placeOf[b]]);
        }
    }

    /** What is gathered of the readings that a search comes to. */
    private static final class Tally {
        final int[] may = new int[MOST_SLOTS];
        int found;
        int inEach;
        long total;
        long part;
        int askedSlot = NONE;
        int askedName = NONE;

        /** Of which slot and name the odds are gathered from now on. */
        void ask(int slot, int name) {
            askedSlot = slot;
            askedName = name;
        }

        void clear() {
            Arrays.fill(may, 0);
            found = 0;
            inEach = allBelow(MOST_NAMES);
            total = 0;
            part = 0;
        }

        void add(int allNames, long product, boolean asAsked) {
            found++;
            inEach &= allNames;
            total += product;
            part += asAsked ? product : 0;
        }

        int inSome(int size) {
            int set = 0;
            for (int s = 0; s < size && s < MOST_SLOTS; s++) {
                set |= may[s];
            }
            return set;
        }

        /** The names that some slot is told to be. */
        int toldNames(int size) {
            int set = 0;
            for (int s = 0; s < size && s < MOST_SLOTS; s++) {
                set |= Integer.bitCount(may[s]) == 1 ? may[s] : 0;
            }
            return set;
        }
    }

    /** Goes through the readings of the slots in order, try by try. */
    private static final class Search {
        final Names names;
        final Slots slots;
        final Tally tally = new Tally();
        final int[] given = new int[MOST_SLOTS];
        final int[] tried = new int[MOST_SLOTS];
        final int[] shutOut = new int[MOST_SLOTS];
        final int[] free = new int[MOST_SLOTS];
        final int[] namesSoFar = new int[MOST_SLOTS];
        final long[] product = new long[MOST_SLOTS];
        int tries;
        int firstNew;
        boolean large;

        Search(Names names, Slots slots) {
            this.names = names;
            this.slots = slots;
        }

        /** Stops behind the reading of the number last, if there is one, with it in given. */
        void go(int last) {
            tally.clear();
            tries = 0;
            firstNew = 0;
            large = false;
            if (slots.size == 0) {
                tally.add(0, 1, false);
                return;
            }
            enter(0);
            int s = 0;
            for (int step = 0; step < MOST_STEPS && s >= 0 && !large && tally.found <= last; step++) {
                s = tryOn(s);
            }
        }

        /** The slot to go on at; below 0 at the end. */
        private int tryOn(int s) {
            int n = tried[s];
            while (n < names.size && !has(free[s], n)) {
                n++;
            }
            // names passed over have been tried, too
            int triedNow = Math.min(n + 1, names.size);
            tries += triedNow - tried[s];
            tried[s] = triedNow;
            large = tries > MOST_TRIES;
            if (large) {
                return s;
            }
            if (n >= names.size) {
                return s - 1;
            }
            give(s, n);
            if (s + 1 < slots.size) {
                enter(s + 1);
                return s + 1;
            }
            takeReading(s);
            return s;
        }

        private void enter(int s) {
            tried[s] = 0;
            shutOut[s] = slots.isBesideTheOneAhead(s) ? shutOut[s - 1] | names.shutOutBy(given[s - 1]) : 0;
            int set = slots.allowed[s] & ~shutOut[s];
            int ahead = slots.twinsAhead[s];
            for (int t = 0; t < s && ahead != 0; t++) {
                if (has(ahead, t)) {
                    set &= 1 << given[t];
                }
            }
            free[s] = set;
        }

        private void give(int s, int n) {
            given[s] = n;
            firstNew = Math.min(firstNew, s);
            namesSoFar[s] = (s > 0 ? namesSoFar[s - 1] : 0) | 1 << n;
            product[s] = (s > 0 ? product[s - 1] : 1) * names.weights[n];
        }

        /** Slots ahead of firstNew are given what they were in the reading before. */
        private void takeReading(int last) {
            for (int s = firstNew; s <= last; s++) {
                tally.may[s] |= 1 << given[s];
            }
            firstNew = last + 1;
            int asked = tally.askedSlot;
            boolean asAsked = within(asked, 0, last) && given[asked] == tally.askedName;
            tally.add(namesSoFar[last], product[last], asAsked);
        }
    }
}
