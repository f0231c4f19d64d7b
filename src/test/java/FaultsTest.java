/** Section 2: the text of a page, cut, spoilt and stretched at every byte; FAULTS 1 to 5 and where each is told. */
public final class FaultsTest {
    private static final String FOUR = "day 5 fount 0:office0[1],office0[1],office0[1],office0[1]";

    private FaultsTest() {
    }

    public static void main(String[] args) {
        cutAnywhere();
        signsAnywhere();
        blanksAnywhere();
        wordsGrown();
        figures();
        numbersInTheirBounds();
        numbersThatCannotStand();
        names();
        sameNameOnAPage();
        fifthPlace();
        eleventhBar();
        theFirstByte();
        theLeastAtAByte();
        longTexts();
        latestFault();
        whatIsShownMayBeAgainstAll();
        Check.end();
    }

    private static UnderBars fresh() {
        UnderBars x = new UnderBars();
        Check.names(x, "p", "pq", "day", "fount", "office", "abcdefghijkl");
        return x;
    }

    private static void good(String text, int places) {
        UnderBars x = fresh();
        Check.due("page of '" + text + "'", Check.page(x, text), 0);
        Check.due("fault of '" + text + "'", x.fault(), UnderBars.NONE);
        Check.due("text behind '" + text + "'", x.count(6), 0);
        Check.due("places of '" + text + "'", x.count(2), places);
    }

    private static void bad(String text, int kind, int at) {
        UnderBars x = fresh();
        Check.faulty(x, text, kind, at);
        Check.due("pages of '" + text + "'", x.count(1), 0);
        Check.due("places of '" + text + "'", x.count(2), 0);
        Check.due("bars of '" + text + "'", x.count(3), 0);
    }

    /** Words, numbers and signs of a page, with a blank ahead of each, or with none where none is needed. */
    private static final String[] PARTS = {"day", "42", "fount", "1", ":", "office", "3", "[", "170", "]", ",",
        "office", "0", "pq", ",", "office", "2", "office"};

    private static int[] starts(String gap) {
        int[] at = new int[PARTS.length + 1];
        int end = 0;
        for (int k = 0; k < PARTS.length; k++) {
            at[k] = end + gap.length();
            end = at[k] + PARTS[k].length();
        }
        at[PARTS.length] = end;
        return at;
    }

    private static String whole(String gap) {
        return gap + String.join(gap, PARTS);
    }

    private static void cutAnywhere() {
        for (String gap : new String[] {"", " ", "   "}) {
            String text = whole(gap);
            int[] at = starts(gap);
            for (int cut = 0; cut < text.length(); cut++) {
                cutAt(text.substring(0, cut), at);
            }
            good(text, 3);
        }
    }

    private static void cutAt(String text, int[] at) {
        int k = 0;
        while (k < PARTS.length && at[k] + PARTS[k].length() <= text.length()) {
            k++;
        }
        boolean isBegun = k < PARTS.length && at[k] < text.length();
        boolean isLetters = isBegun && text.charAt(at[k]) >= 'a';
        boolean isPlaceDone = k == 10 || k == 14;
        if (isPlaceDone) {
            good(text, k == 10 ? 1 : 2);
        } else if (k == 13 && isBegun) {
            // p alone is a name, too
            good(text, 2);
        } else if (k == PARTS.length - 1 && isBegun) {
            bad(text, 3, at[k]);
        } else {
            // a number cut is a number still: the end is what cannot stand there
            bad(text, 1, isLetters ? at[k] : text.length());
        }
    }

    private static void signsAnywhere() {
        int[] at = starts("");
        String text = whole("");
        for (int k = 0; k <= PARTS.length; k++) {
            for (int sign = 0; sign < 256; sign++) {
                boolean isLetterOrFigure = sign >= 'a' && sign <= 'z' || sign >= '0' && sign <= '9';
                if (!isLetterOrFigure && sign != ' ') {
                    String spoilt = text.substring(0, at[k]) + (char) sign + text.substring(at[k]);
                    String next = k < PARTS.length ? PARTS[k] : "";
                    boolean canStand = next.equals(String.valueOf((char) sign)) || sign == ',' && k == PARTS.length
                        || sign == '[' && (next.equals("pq") || k == PARTS.length - 1);
                    bad(spoilt, 1, canStand ? at[k] + 1 : at[k]);
                }
            }
        }
    }

    private static void blanksAnywhere() {
        int[] at = starts("");
        String text = whole("");
        for (int k = 0; k <= PARTS.length; k++) {
            good(text.substring(0, at[k]) + " " + text.substring(at[k]), 3);
            good(text.substring(0, at[k]) + " ".repeat(120 - text.length()) + text.substring(at[k]), 3);
        }
        // within words and numbers they may not
        bad("d ay 42 fount 1:office 3 [170]", 1, 0);
        bad("da y 42 fount 1:office 3 [170]", 1, 0);
        bad("day 4 2 fount 1:office 3 [170]", 1, 6);
        bad("day 42 f ount 1:office 3 [170]", 1, 7);
        bad("day 42 fount 0 1:office 3 [170]", 1, 15);
        bad("day 42 fount 1:off ice 3 [170]", 1, 15);
        bad("day 42 fount 1:office 0 3 [170]", 1, 24);
        bad("day 42 fount 1:office 3 [1 70]", 1, 27);
        bad("day 42 fount 1:office 3 [17 0]", 1, 28);
        bad("day 42 fount 1:office 3 p q", 1, 26);
        bad("day 42 fount 1:office 3 abcdef ghijkl", 3, 24);
        // nor are other blanks blanks
        for (char other : new char[] {'\t', '\n', '\r', '\f', 0, 31, 33, 160}) {
            bad("day" + other + "42 fount 1:office 3 p", 1, 3);
        }
    }

    private static void wordsGrown() {
        bad("dayfount 5", 1, 0);
        bad("xday 5", 1, 0);
        bad("dayx 5", 1, 0);
        bad("day 5 founts 0", 1, 6);
        bad("day 5 fountoffice 0", 1, 6);
        bad("day 5 fount 0:officeoffice 0 p", 1, 14);
        bad("day 5 fount 0:offices 0 p", 1, 14);
        bad("day 5 fount 0:office p", 1, 21);
        bad("Day 5 fount 0:office 0 p", 1, 0);
        bad("dAy 5 fount 0:office 0 p", 1, 0);
        bad("day 5 Fount 0:office 0 p", 1, 6);
        bad("day 5 fount 0:office 0 Pq", 1, 23);
        bad("day 5 fount 0:office 0 pQ", 1, 24);
        bad("day 5 day 0:office 0 p", 1, 6);
        bad("fount 5 day 0:office 0 p", 1, 0);
        bad("day 5 fount 0:day 0 p", 1, 14);
        bad("day 5 fount 0:p", 1, 14);
        // letters with the eighth bit are none
        bad("day 5 fount 0:office 0 " + (char) ('p' + 128), 1, 23);
        bad("day " + (char) ('5' + 128), 1, 4);
        good("day 5 fount 0:office 0 day,office 0 fount,office 0 office,office 0 p", 4);
    }

    private static String padded(int number, int figures) {
        return String.format("%0" + figures + "d", number);
    }

    /** One to three figures; four are too many, noughts or not. */
    private static void figures() {
        for (int figures = 1; figures <= 3; figures++) {
            String n = padded(1, figures);
            good("day " + n + " fount " + n + ":office " + n + " [" + n + "]", 1);
        }
        for (int figures = 4; figures <= 12; figures++) {
            String n = padded(1, figures);
            bad("day " + n + " fount 0:office 0 p", 2, 4);
            bad("day 1 fount " + n + ":office 0 p", 2, 12);
            bad("day 1 fount 0:office " + n + " p", 2, 21);
            bad("day 1 fount 0:office 0 [" + n + "]", 2, 24);
        }
        // what would be within the bounds, if it were cut or if it ran over
        bad("day 4294967297 fount 0:office 0 p", 2, 4);
        bad("day 18446744073709551617 fount 0:office 0 p", 2, 4);
        bad("day 1 fount 4294967296:office 0 p", 2, 12);
        bad("day 1 fount 0:office 4294967299 p", 2, 21);
        bad("day 1 fount 0:office 0 [4294967396]", 2, 24);
        bad("day 1 fount 0:office 0 [1000]", 2, 24);
        bad("day 9999", 2, 4);
    }

    private static void numbersInTheirBounds() {
        for (int v = 0; v <= 999; v++) {
            number("day ", v, " fount 0:office 0 p", v <= 99);
            number("day 1 fount ", v, ":office 0 p", v <= 1);
            number("day 1 fount 0:office ", v, " p", v <= 3);
            number("day 1 fount 0:office 0 [", v, "]", v >= 1 && v <= 200);
        }
        UnderBars x = fresh();
        Check.page(x, "day 0 fount 1:office 3 [1],office 000 [200],office 2 [099]");
        int[][] want = {{3, 1}, {0, 200}, {2, 99}};
        for (int p = 0; p < want.length; p++) {
            Check.due("office", x.place(p, 1), want[p][0]);
            Check.due("how wide", x.place(p, 4), want[p][1]);
        }
    }

    private static void number(String ahead, int v, String behind, boolean isWithin) {
        if (isWithin) {
            good(ahead + v + behind, 1);
            good(ahead + padded(v, 3) + behind, 1);
        } else {
            bad(ahead + v + behind, 2, ahead.length());
            bad(ahead + padded(v, 3) + behind, 2, ahead.length());
        }
    }

    private static void numbersThatCannotStand() {
        bad("5", 1, 0);
        bad("day 5 5 fount 0:office 0 p", 1, 6);
        bad("day 5 fount 0 0:office 0 p", 1, 14);
        bad("day 5 fount 0:0", 1, 14);
        bad("day 5 fount 0:office 0 0 p", 1, 23);
        bad("day 5 fount 0:office 0 p 0", 1, 25);
        bad("day 5 fount 0:office 0 p0", 1, 24);
        bad("day 5 fount 0:office 0 p,0", 1, 25);
        bad("day 5 fount 0:office 0 [5]5", 1, 26);
        bad("day 5 fount 0:office 0 [5 5]", 1, 26);
        bad("day -5 fount 0:office 0 p", 1, 4);
        bad("day +5 fount 0:office 0 p", 1, 4);
        bad("day 5 fount 0:office 0 [-5]", 1, 24);
        bad("day 5.0 fount 0:office 0 p", 1, 5);
    }

    private static void names() {
        good("day 5 fount 0:office 0 abcdefghijkl", 1);
        good("day5fount0:office0p,office0pq", 2);
        bad("day 5 fount 0:office 0 abcdefghijk", 3, 23);
        bad("day 5 fount 0:office 0 abcdefghijklm", 3, 23);
        bad("day 5 fount 0:office 0 bcdefghijkl", 3, 23);
        bad("day 5 fount 0:office 0 q", 3, 23);
        bad("day 5 fount 0:office 0 qp", 3, 23);
        bad("day 5 fount 0:office 0 pp", 3, 23);
        bad("day 5 fount 0:office 0 pqp", 3, 23);
        bad("day 5 fount 0:office 0 dayfount", 3, 23);
        bad("day 5 fount 0:office 0 " + "p".repeat(97), 3, 23);
        UnderBars x = new UnderBars();
        Check.faulty(x, "day 5 fount 0:office 0 p", 3, 23);
        Check.names(x, "p");
        Check.due("it is one now", Check.page(x, "day 5 fount 0:office 0 p"), 0);
    }

    private static void sameNameOnAPage() {
        String[] four = {"p", "pq", "day", "office"};
        for (int a = 0; a < 4; a++) {
            for (int b = a + 1; b < 4; b++) {
                String text = "day 5 fount 0:";
                int at = 0;
                for (int k = 0; k < 4; k++) {
                    text += (k > 0 ? "," : "") + "office 0 ";
                    at = k == b ? text.length() : at;
                    text += k == b ? four[a] : four[k];
                }
                bad(text, 3, at);
            }
        }
        bad("day 5 fount 0:office 0 p,office 0 [5],office 1 p", 3, 47);
        UnderBars x = fresh();
        for (int k = 0; k < 8; k++) {
            Check.due("on each page anew", Check.page(x, "day 5 fount 0:office 0 p,office 0 pq"), k);
        }
    }

    private static void fifthPlace() {
        String names = "day 5 fount 0:office0 p,office0 pq,office0 day,office0 office";
        good(FOUR, 4);
        good(names, 4);
        for (String four : new String[] {FOUR, names}) {
            int end = four.length();
            bad(four + ",office 0 fount", 4, end + 1);
            bad(four + " , office 0 [5]", 4, end + 3);
            bad(four + ",office", 4, end + 1);
            bad(four + ",office 9", 4, end + 1);
            bad(four + ",office 0 ?", 4, end + 1);
            bad(four + ",office 0 fount,office 0 fount", 4, end + 1);
            bad(four + ",", 1, end + 1);
            bad(four + ", ", 1, end + 2);
            bad(four + ",,", 1, end + 1);
            bad(four + ",?", 1, end + 1);
            bad(four + ",[5]", 1, end + 1);
            bad(four + ",5", 1, end + 1);
            bad(four + ",offic 0 p", 1, end + 1);
            bad(four + ",officer 0 p", 1, end + 1);
            bad(four + ",fount", 1, end + 1);
            bad(four + "?", 1, end);
        }
        bad("day 5 fount 0:office0[1],office0[1],office0[1],office0[0],office 0", 2, 55);
    }

    /** So many bars that there are, four on a page. */
    private static UnderBars withBars(int many) {
        UnderBars x = fresh();
        for (int k = 0; k < many / 4; k++) {
            Check.page(x, FOUR);
        }
        for (int k = 0; k < many % 4; k++) {
            Check.page(x, "day 5 fount 0:office0[1]");
        }
        return x;
    }

    private static void eleventhBar() {
        for (int there = 6; there <= 10; there++) {
            for (int more = 1; more <= 4; more++) {
                String text = "day 5 fount 0:office0[1]" + ",office0[1]".repeat(more - 1);
                UnderBars x = withBars(there);
                int pages = x.count(1);
                if (there + more <= 10) {
                    Check.due("bars up to " + (there + more), Check.page(x, text), pages);
                    Check.due("all bars", x.count(3), there + more);
                } else {
                    Check.faulty(x, text, 5, 21 + 11 * (10 - there));
                    Check.due("bars as they were", x.count(3), there);
                    Check.due("pages as they were", x.count(1), pages);
                }
            }
        }
        UnderBars x = withBars(10);
        Check.faulty(x, "day 5 fount 0:office 0 p,office 0 [", 5, 34);
        Check.faulty(x, "day 5 fount 0:office 0 p,office 0  [?", 5, 35);
        Check.faulty(x, "day 5 fount 0:office 0 [0]", 5, 23);
        Check.faulty(x, "day 5 fount 0:office 0 [9999]", 5, 23);
        Check.faulty(x, "day 5 fount 0:office 0 []", 5, 23);
        Check.faulty(x, "day 5 fount 0:office 0 ]", 1, 23);
        int pages = x.count(1);
        Check.due("names are shown still", Check.page(x, "day 5 fount 0:office 0 p,office 0 pq"), pages);
        String names = "day 5 fount 0:office0 p,office0 pq,office0 day,office0 office";
        Check.faulty(x, names + ",office0[5]", 4, names.length() + 1);
    }

    /** Of two faults the one at the first byte, whichever is the lesser number. */
    private static void theFirstByte() {
        String[] first = {"office 0 ?", "office 4 p", "office 0 zz", "office 0 [1]"};
        int[] at = {9, 7, 9, 9};
        int[] kind = {1, 2, 3, 5};
        for (int a = 0; a < first.length; a++) {
            for (int b = 0; b < first.length; b++) {
                UnderBars x = withBars(10);
                Check.faulty(x, "day 5 fount 0:" + first[a] + "," + first[b], kind[a], 14 + at[a]);
            }
            UnderBars x = withBars(10);
            Check.faulty(x, "day 100 fount 0:" + first[a], 2, 4);
            Check.faulty(x, "dax 5 fount 0:" + first[a], 1, 0);
            String names = "day 5 fount 0:office0 p,office0 pq,office0 day,office0 office,";
            Check.faulty(x, names + first[a], 4, names.length());
            Check.faulty(x, "day 5 fount 0:office 0 p," + first[a] + ",office0 p,office0 p,office0 p", kind[a], 25 + at[a]);
        }
    }

    private static void theLeastAtAByte() {
        // 1 ahead of 2
        bad("1000", 1, 0);
        bad("day 5 1000", 1, 6);
        bad("day 5 fount 0 999", 1, 14);
        bad("day 5 fount 0:1000", 1, 14);
        bad("day 5 fount 0:office 0 1000", 1, 23);
        bad("day 5 fount 0:office 0 p 1000", 1, 25);
        bad("day 5 fount 0:office 0 [5 201]", 1, 26);
        // 1 ahead of 3
        bad("day 5 fount 0:zz", 1, 14);
        bad("day 5 fount 0:office zz", 1, 21);
        bad("day 5 fount 0:office 0 p zz", 1, 25);
        bad("day 5 fount 0:office 0 p p", 1, 25);
        bad("day 5 fount 0:office 0 [zz]", 1, 24);
        // 1 ahead of 4
        bad(FOUR + " office 0 p", 1, FOUR.length() + 1);
        bad(FOUR + ",p", 1, FOUR.length() + 1);
        // 1 ahead of 5
        UnderBars x = withBars(10);
        Check.faulty(x, "day 5 fount 0:[5]", 1, 14);
        Check.faulty(x, "day 5 fount 0:office[5]", 1, 20);
        Check.faulty(x, "day 5 fount 0:office 0 p[5]", 1, 24);
        Check.faulty(x, "[", 1, 0);
    }

    private static void longTexts() {
        String page = "day 5 fount 0:office 0 abcdefghijkl";
        good(page + " ".repeat(120 - page.length()), 1);
        good(" ".repeat(120 - page.length()) + page, 1);
        bad(" ".repeat(120), 1, 120);
        bad(" ".repeat(119), 1, 119);
        bad(" ".repeat(119) + "?", 1, 119);
        bad("p".repeat(120), 1, 0);
        bad("1".repeat(120), 1, 0);
        bad("day " + "1".repeat(116), 2, 4);
        bad(page + " ".repeat(119 - page.length()) + ",", 1, 120);
        bad(page + " ".repeat(119 - page.length()) + "x", 1, 119);
        bad("", 1, 0);
        bad(" ", 1, 1);
    }

    private static void latestFault() {
        UnderBars x = fresh();
        Check.due("none yet", x.fault(), UnderBars.NONE);
        Check.faulty(x, "day 5 ?", 1, 6);
        Check.due("asked again", x.fault(), 6);
        Check.feed(x, "A");
        Check.due("a name refused is no page", x.name(), UnderBars.OUTSIDE);
        Check.due("still", x.fault(), 6);
        Check.feed(x, "day");
        Check.due("fed", x.fault(), 6);
        Check.feed(x, " 5 fount 0:office 0 p");
        Check.due("a page", x.page(), 0);
        Check.due("no fault of it", x.fault(), UnderBars.NONE);
        Check.faulty(x, "day 5 fount 5", 2, 12);
        Check.faulty(x, "", 1, 0);
        for (int k = 1; k < 8; k++) {
            Check.faulty(x, "day 5 ?", 1, 6);
            Check.due("page", Check.page(x, "day 5 fount 0:office 0 p"), k);
        }
        Check.feed(x, "day 5 ?");
        Check.due("full", x.page(), UnderBars.FULL);
        Check.due("not of the one that was full", x.fault(), UnderBars.NONE);
        Check.due("text stays", x.count(6), 7);
    }

    private static void whatIsShownMayBeAgainstAll() {
        UnderBars x = fresh();
        x.offices(0, 0);
        x.there(0, 9, 9);
        x.there(1, 0, 0);
        x.never(0, 1, true);
        Check.due("it is shown all the same", Check.page(x, "day 5 fount 0:office 0 p,office 3 pq"), 0);
        Check.due("the one", x.place(0, 2), 0);
        Check.due("the other", x.place(1, 2), 1);
        Check.due("there is a reading", x.readings(), 1);
        Check.due("on", x.on(0), 2);
        Check.due("opened", x.opened(1), 1);
    }
}
