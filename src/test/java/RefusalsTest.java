import java.util.ArrayList;
import java.util.List;

/**
 * "REFUSALS, of several the first in this order", "What is refused changes nothing": of every call.
 *
 * After each refused call all that can be asked of the object is held against another object that was made by
 * the same calls without the refused one.
 */
public final class RefusalsTest {
    private static final int LEAST = Integer.MIN_VALUE;
    private static final int GREATEST = Integer.MAX_VALUE;
    private static final int[] NO_NAMES = {-1, 4, -2, 10, 32, LEAST, GREATEST};
    private static final int[] NO_BARS = {-1, 5, 10, 32, LEAST, GREATEST};
    private static final int[] NO_PLACES = {-1, 9, 32, LEAST, GREATEST};
    private static final int[] NO_READERS = {-1, 4, 32, LEAST, GREATEST};
    private static final int[] NO_READER_SETS = {16, 17, 31, -1, -16, LEAST, GREATEST};
    private static final int[] NO_NAME_SETS = {16, 17, 31, 1 << 10, -1, -16, LEAST, GREATEST};
    private static final int[] NO_PAGE_SETS = {8, 9, 15, 1 << 8, -1, -8, LEAST, GREATEST};

    private interface Call {
        long on(UnderBars x);
    }

    private RefusalsTest() {
    }

    public static void main(String[] args) {
        founts();
        feed();
        name();
        namesUnknown();
        numbersOfNames();
        page();
        twins();
        readings();
        odds();
        readers();
        sets();
        whenLarge();
        Check.end();
    }

    /** Something of everything: 4 names, 3 pages, 9 places, 5 bars, twins, what readers know, a fault, a text. */
    private static UnderBars busy(String left) {
        UnderBars x = new UnderBars();
        x.wide(0, 0, 20);
        x.wide(1, 25, 1);
        Check.names(x, "a", "b", "c", "dd");
        x.wide(0, 0, 5);
        x.offices(0, 7);
        x.offices(3, 9);
        x.there(1, 0, 50);
        x.there(2, 3, 99);
        x.weight(0, 9);
        x.weight(2, 2);
        x.never(1, 3, true);
        x.slack(1);
        Check.page(x, "day 5 fount 0:office 0 [5],office 1 [6],office 2 dd");
        Check.page(x, "day 6 fount 1:office 3 [5],office 0 [10],office 0 a,office 1 b");
        Check.page(x, "day 7 fount 0:office 2 [4],office 3 c");
        x.twins(0, 4);
        x.away(0, 2);
        x.away(3, 5);
        x.knows(1, 1, 0);
        x.knows(2, 4, 1);
        x.keep(6);
        Check.page(x, "day 5 ?");
        Check.feed(x, left);
        return x;
    }

    /** Ten names, eight pages, ten bars, ten pairs of twins: no reading. */
    private static UnderBars full(String left) {
        UnderBars x = new UnderBars();
        Check.names(x, "a", "b", "c", "d", "e", "f", "g", "h", "i", "j");
        for (int k = 0; k < 4; k++) {
            Check.page(x, "day 5 fount 0:office0[5],office0[5],office0 a");
        }
        for (int k = 0; k < 2; k++) {
            Check.page(x, "day 5 fount 0:office0[5],office0 b");
        }
        for (int k = 0; k < 2; k++) {
            Check.page(x, "day 5 fount 0:office0 c,office1 d,office2 e,office3 f");
        }
        for (int b = 0; b < 4; b++) {
            for (int c = b + 1; c < 5; c++) {
                x.twins(b, c);
            }
        }
        Check.feed(x, left);
        return x;
    }

    /** Six bars for six names each, on six pages: large, whatever is asked. */
    private static UnderBars large() {
        UnderBars x = new UnderBars();
        Check.names(x, "a", "b", "c", "d", "e", "f");
        for (int k = 0; k < 6; k++) {
            Check.page(x, "day 5 fount 0:office0[5]");
        }
        return x;
    }

    /** All that can be asked; what can be asked only by a change is asked last. */
    private static List<Long> allAnswers(UnderBars x) {
        List<Long> all = new ArrayList<>();
        int names = x.count(0);
        int places = x.count(2);
        int bars = x.count(3);
        for (int what = 0; what <= 8; what++) {
            all.add((long) x.count(what));
        }
        all.add((long) x.fault());
        for (int n = 0; n < names; n++) {
            for (int what = 0; what <= 6; what++) {
                all.add((long) x.told(n, what));
            }
        }
        for (int p = 0; p < places; p++) {
            for (int what = 0; what <= 4; what++) {
                all.add((long) x.place(p, what));
            }
        }
        askSearches(x, all, bars);
        askByChange(x, all, names, bars);
        return all;
    }

    private static void askSearches(UnderBars x, List<Long> all, int bars) {
        all.add((long) x.readings());
        for (int readers = 0; readers < 16; readers++) {
            all.add((long) x.together(readers));
        }
        for (int b = 0; b < bars; b++) {
            all.add((long) x.fits(b));
            all.add((long) x.may(b));
            all.add((long) x.sees(9, b));
            all.add(x.odds(b, 0, 0));
            all.add(x.odds(b, 0, 1));
        }
        all.add((long) x.betrayed(0));
        all.add((long) x.most());
        all.add((long) x.fewest());
        all.add((long) x.wider());
    }

    private static void askByChange(UnderBars x, List<Long> all, int names, int bars) {
        all.add((long) x.keep(0));
        all.add((long) x.slack(0));
        for (int n = 1; n < names; n++) {
            all.add((long) x.never(n, n - 1, true));
            all.add((long) x.never(0, n, true));
        }
        for (int r = 0; r < 4; r++) {
            all.add((long) x.away(r, 0));
            for (int b = 0; b < bars; b++) {
                all.add((long) x.knows(r, b, UnderBars.NONE));
            }
        }
        for (int letter = 0; letter < 26; letter += 5) {
            all.add((long) x.wide(0, letter, 7));
            all.add((long) x.wide(1, letter, 7));
        }
        for (int b = 1; b < bars; b++) {
            all.add((long) x.twins(b, 0));
        }
        // the text itself: what it is as a name, and what it is behind more of the same
        all.add((long) x.name());
        Check.feed(x, "kk");
        all.add((long) x.name());
        all.add((long) x.count(0));
        all.add((long) x.count(6));
    }

    private static void same(String call, UnderBars got, UnderBars want) {
        List<Long> gotAll = allAnswers(got);
        List<Long> wantAll = allAnswers(want);
        for (int k = 0; k < Math.min(gotAll.size(), wantAll.size()); k++) {
            Check.due("answer " + k + " behind " + call, gotAll.get(k), wantAll.get(k));
        }
        Check.due("answers behind " + call, gotAll.size(), wantAll.size());
    }

    /** Refused with the busy object, which is then as it was. */
    private static void refused(String call, long due, Call made) {
        UnderBars x = busy("kk");
        Check.due(call, made.on(x), due);
        same(call, x, busy("kk"));
    }

    private static void refusedWhenFull(String call, long due, Call made) {
        UnderBars x = full("kk");
        Check.due(call, made.on(x), due);
        same(call, x, full("kk"));
    }

    private static void unknown(String call, Call made) {
        refused(call, UnderBars.UNKNOWN, made);
    }

    private static void outside(String call, Call made) {
        refused(call, UnderBars.OUTSIDE, made);
    }

    private static void founts() {
        for (int v : new int[] {0, 21, -1, LEAST, GREATEST}) {
            outside("wide(0, 0, " + v + ")", x -> x.wide(0, 0, v));
            outside("wide(1, 25, " + v + ")", x -> x.wide(1, 25, v));
        }
        for (int letter : new int[] {-1, 26, LEAST, GREATEST}) {
            outside("wide(0, " + letter + ", 9)", x -> x.wide(0, letter, 9));
            outside("wide(1, " + letter + ", 9)", x -> x.wide(1, letter, 9));
        }
        for (int fount : new int[] {-1, 2, LEAST, GREATEST}) {
            outside("wide(" + fount + ", 0, 9)", x -> x.wide(fount, 0, 9));
            outside("wide(" + fount + ", 25, 9)", x -> x.wide(fount, 25, 9));
        }
        for (int v : new int[] {-1, 10, LEAST, GREATEST}) {
            outside("slack(" + v + ")", x -> x.slack(v));
        }
        for (int what : new int[] {-1, 9, LEAST, GREATEST}) {
            outside("count(" + what + ")", x -> x.count(what));
        }
    }

    private static void feed() {
        for (int n : new int[] {0, 9, -1, 16, LEAST, GREATEST}) {
            outside("feed(" + n + ", ..)", x -> x.feed(n, 0x6161616161616161L));
        }
        // the text as it was: a page whose last byte is the 120th
        for (int n = 1; n <= 8; n++) {
            int room = n - 1;
            UnderBars x = new UnderBars();
            Check.names(x, "abcdefghijkl");
            String page = " ".repeat(120 - 35 - room) + "day 0 fount 0:office 0 abcdefghijkl";
            Check.feed(x, page);
            Check.due("feed(" + n + ", ..) with room for " + room, x.feed(n, 0), UnderBars.FULL);
            for (int no : new int[] {0, 9, -1, LEAST, GREATEST}) {
                Check.due("outside ahead of full", x.feed(no, 0), UnderBars.OUTSIDE);
            }
            Check.due("bytes behind it", x.count(6), 120 - room);
            if (room > 0) {
                Check.due("just what has room", x.feed(room, 0x2020202020202020L), 120);
            }
            Check.due("the page behind it", x.page(), 0);
        }
    }

    private static void name() {
        String[] outside = {"", "abcdefghijklm", "A", "aZ", "`", "a{", " a", "a ", "a b", "a1", "1", "[", "\0", "\u00ff",
            "a\u00e9", "abcdefghijkl ", "a".repeat(120), " ".repeat(120)};
        for (String text : outside) {
            UnderBars x = busy(text);
            Check.due("name of '" + text + "'", x.name(), UnderBars.OUTSIDE);
            same("name of '" + text + "'", x, busy(""));
            UnderBars y = full(text);
            Check.due("outside ahead of full: '" + text + "'", y.name(), UnderBars.OUTSIDE);
            same("name, when full, of '" + text + "'", y, full(""));
        }
        for (String text : new String[] {"a", "dd"}) {
            UnderBars x = busy(text);
            Check.due("like one: " + text, x.name(), UnderBars.NOT);
            same("name of " + text, x, busy(""));
        }
        for (String text : new String[] {"a", "j"}) {
            UnderBars x = full(text);
            Check.due("not ahead of full: " + text, x.name(), UnderBars.NOT);
            same("name, when full, of " + text, x, full(""));
        }
        refusedWhenFull("name of kk", UnderBars.FULL, x -> x.name());
        // the text that stays is the same one: more of it makes it a page
        UnderBars x = new UnderBars();
        Check.names(x, "a", "b", "c", "d", "e", "f", "g", "h", "i", "j");
        Check.feed(x, "day");
        Check.due("full", x.name(), UnderBars.FULL);
        Check.due("full again", x.name(), UnderBars.FULL);
        Check.feed(x, " 7 fount 1:office 2 j");
        Check.due("a page of what stayed", x.page(), 0);
        Check.due("its office", x.place(0, 1), 2);
    }

    private static void namesUnknown() {
        for (int n : NO_NAMES) {
            for (int set : new int[] {0, 15, 16, -1}) {
                unknown("offices(" + n + ", " + set + ")", x -> x.offices(n, set));
            }
            unknown("there(" + n + ", 0, 9)", x -> x.there(n, 0, 9));
            unknown("there(" + n + ", 9, 0)", x -> x.there(n, 9, 0));
            unknown("there(" + n + ", -1, 100)", x -> x.there(n, -1, 100));
            for (int v : new int[] {1, 9, 0, 10}) {
                unknown("weight(" + n + ", " + v + ")", x -> x.weight(n, v));
            }
            for (int what : new int[] {0, 6, -1, 7}) {
                unknown("told(" + n + ", " + what + ")", x -> x.told(n, what));
            }
            for (boolean is : new boolean[] {true, false}) {
                unknown("never(" + n + ", 3, " + is + ")", x -> x.never(n, 3, is));
                unknown("never(1, " + n + ", " + is + ")", x -> x.never(1, n, is));
                unknown("never(" + n + ", " + n + ", " + is + ")", x -> x.never(n, n, is));
            }
            unknown("on(" + n + ")", x -> x.on(n));
        }
        for (int n = 0; n < 4; n++) {
            int twice = n;
            unknown("never, " + n + " twice", x -> x.never(twice, twice, true));
            unknown("never no longer, " + n + " twice", x -> x.never(twice, twice, false));
        }
    }

    private static void numbersOfNames() {
        for (int n : new int[] {0, 3}) {
            for (int set : new int[] {-1, 16, 31, LEAST, GREATEST}) {
                outside("offices(" + n + ", " + set + ")", x -> x.offices(n, set));
            }
            int[][] days = {{-1, 9}, {-1, -1}, {9, 8}, {99, 0}, {0, 100}, {100, 100}, {99, 100}, {100, 99}, {0, -1},
                {LEAST, GREATEST}, {GREATEST, GREATEST}, {LEAST, 0}, {0, GREATEST}, {0, LEAST}, {GREATEST, 0}};
            for (int[] d : days) {
                outside("there(" + n + ", " + d[0] + ", " + d[1] + ")", x -> x.there(n, d[0], d[1]));
            }
            for (int v : new int[] {0, 10, -1, LEAST, GREATEST}) {
                outside("weight(" + n + ", " + v + ")", x -> x.weight(n, v));
            }
            for (int what : new int[] {-1, 7, LEAST, GREATEST}) {
                outside("told(" + n + ", " + what + ")", x -> x.told(n, what));
            }
        }
        for (int what : new int[] {-1, 5, LEAST, GREATEST}) {
            outside("place(0, " + what + ")", x -> x.place(0, what));
            outside("place(8, " + what + ")", x -> x.place(8, what));
            for (int p : NO_PLACES) {
                unknown("place(" + p + ", " + what + ")", x -> x.place(p, what));
            }
        }
        for (int p : NO_PLACES) {
            unknown("place(" + p + ", 0)", x -> x.place(p, 0));
            unknown("place(" + p + ", 4)", x -> x.place(p, 4));
        }
    }

    /** A page with a fault takes the text and tells the byte; all else is as it was. */
    private static void page() {
        String[] faulty = {"", "day 5 ?", "day 100 fount 0:office 0 a", "day 5 fount 0:office 0 [5],office 0 zz",
            "day 5 fount 1:office 0 [5],office 0 b,office 0 b", "day 9 fount 1:office0[1],office0[1],office0 b,office0",
            "day 5 fount 0:office0[1],office0[1],office0[1],office0 a,office0[1]"};
        int[] due = {-11, -11, -12, -13, -13, -11, -14};
        int[] at = {0, 6, 4, 36, 47, 53, 57};
        for (int k = 0; k < faulty.length; k++) {
            UnderBars x = busy(faulty[k]);
            Check.due("page of '" + faulty[k] + "'", x.page(), due[k]);
            Check.due("fault of '" + faulty[k] + "'", x.fault(), at[k]);
            // the busy object's own fault, once more
            Check.page(x, "day 5 ?");
            same("page of '" + faulty[k] + "'", x, busy(""));
        }
        UnderBars eleventh = busy("day 5 fount 0:office0[1],office0[1],office0[1],office0[1]");
        eleventh.page();
        Check.faulty(eleventh, "day 5 fount 0:office0[1],office0 b,office0[1]", 5, 42);
        for (String text : new String[] {"kk", "", "day 5 fount 0:office 0 a", "day 5 ?"}) {
            UnderBars x = full(text);
            Check.due("full, with '" + text + "'", x.page(), UnderBars.FULL);
            same("page when full, with '" + text + "'", x, full(text));
        }
    }

    private static void twins() {
        for (int b : NO_BARS) {
            unknown("twins(" + b + ", 1)", x -> x.twins(b, 1));
            unknown("twins(1, " + b + ")", x -> x.twins(1, b));
            unknown("twins(" + b + ", " + b + ")", x -> x.twins(b, b));
        }
        for (int b = 0; b < 5; b++) {
            int twice = b;
            unknown("twins, " + b + " twice", x -> x.twins(twice, twice));
        }
        refused("twins already", UnderBars.NOT, x -> x.twins(0, 4));
        refused("twins already, the other way", UnderBars.NOT, x -> x.twins(4, 0));
        refusedWhenFull("the eleventh pair", UnderBars.FULL, x -> x.twins(0, 5));
        refusedWhenFull("the eleventh pair, of others", UnderBars.FULL, x -> x.twins(9, 8));
        refusedWhenFull("not ahead of full", UnderBars.NOT, x -> x.twins(4, 3));
        refusedWhenFull("unknown ahead of full", UnderBars.UNKNOWN, x -> x.twins(0, 10));
        refusedWhenFull("unknown ahead of full", UnderBars.UNKNOWN, x -> x.twins(-1, 9));
        refusedWhenFull("one twice ahead of full", UnderBars.UNKNOWN, x -> x.twins(9, 9));
    }

    private static void readings() {
        for (int b : NO_BARS) {
            unknown("reading(0, " + b + ")", x -> x.reading(0, b));
            unknown("reading(-1, " + b + ")", x -> x.reading(-1, b));
            unknown("may(" + b + ")", x -> x.may(b));
            unknown("fits(" + b + ")", x -> x.fits(b));
        }
        for (int i : new int[] {-1, -2, LEAST}) {
            outside("reading(" + i + ", 0)", x -> x.reading(i, 0));
            outside("reading(" + i + ", 4)", x -> x.reading(i, 4));
        }
    }

    private static void odds() {
        for (int what : new int[] {0, 1, -1, 2}) {
            for (int b : NO_BARS) {
                unknown("odds(" + b + ", 0, " + what + ")", x -> x.odds(b, 0, what));
                unknown("odds(" + b + ", -1, " + what + ")", x -> x.odds(b, -1, what));
            }
            for (int n : NO_NAMES) {
                unknown("odds(0, " + n + ", " + what + ")", x -> x.odds(0, n, what));
            }
        }
        for (int what : new int[] {-1, 2, LEAST, GREATEST}) {
            outside("odds(4, 3, " + what + ")", x -> x.odds(4, 3, what));
            refusedWhenFull("outside ahead of not", UnderBars.OUTSIDE, x -> x.odds(9, 9, what));
        }
        refusedWhenFull("no reading, upper", UnderBars.NOT, x -> x.odds(0, 0, 0));
        refusedWhenFull("no reading, lower", UnderBars.NOT, x -> x.odds(9, 9, 1));
        refusedWhenFull("unknown bar ahead of not", UnderBars.UNKNOWN, x -> x.odds(10, 0, 0));
        refusedWhenFull("unknown name ahead of not", UnderBars.UNKNOWN, x -> x.odds(0, 10, 1));
    }

    private static void readers() {
        for (int r : NO_READERS) {
            unknown("away(" + r + ", 1)", x -> x.away(r, 1));
            unknown("away(" + r + ", 0)", x -> x.away(r, 0));
            unknown("away(" + r + ", -1)", x -> x.away(r, -1));
            unknown("knows(" + r + ", 1, 1)", x -> x.knows(r, 1, 1));
            unknown("knows(" + r + ", 1, NONE)", x -> x.knows(r, 1, UnderBars.NONE));
        }
        for (int set : NO_NAME_SETS) {
            unknown("away(0, " + set + ")", x -> x.away(0, set));
            unknown("away(3, " + set + ")", x -> x.away(3, set));
        }
        for (int b : NO_BARS) {
            unknown("knows(0, " + b + ", 1)", x -> x.knows(0, b, 1));
            unknown("knows(3, " + b + ", NONE)", x -> x.knows(3, b, UnderBars.NONE));
            unknown("sees(0, " + b + ")", x -> x.sees(0, b));
            unknown("sees(15, " + b + ")", x -> x.sees(15, b));
        }
        for (int n : new int[] {-2, 4, 10, 32, LEAST, GREATEST}) {
            unknown("knows(1, 1, " + n + ")", x -> x.knows(1, 1, n));
            unknown("knows(3, 4, " + n + ")", x -> x.knows(3, 4, n));
        }
    }

    private static void sets() {
        for (int set : NO_READER_SETS) {
            unknown("together(" + set + ")", x -> x.together(set));
            unknown("sees(" + set + ", 0)", x -> x.sees(set, 0));
            unknown("sees(" + set + ", 5)", x -> x.sees(set, 5));
            unknown("betrayed(" + set + ")", x -> x.betrayed(set));
        }
        for (int set : NO_NAME_SETS) {
            unknown("keep(" + set + ")", x -> x.keep(set));
        }
        for (int set : NO_PAGE_SETS) {
            unknown("opened(" + set + ")", x -> x.opened(set));
        }
    }

    private static void whenLarge() {
        UnderBars x = large();
        Check.due("readings", x.readings(), UnderBars.LARGE);
        Check.due("unknown ahead", x.reading(9999, 6), UnderBars.UNKNOWN);
        Check.due("unknown ahead", x.reading(-1, -1), UnderBars.UNKNOWN);
        Check.due("outside ahead", x.reading(-1, 0), UnderBars.OUTSIDE);
        Check.due("reading", x.reading(9999, 0), UnderBars.LARGE);
        Check.due("unknown ahead", x.may(6), UnderBars.UNKNOWN);
        Check.due("may", x.may(5), UnderBars.LARGE);
        Check.due("unknown bar ahead", x.odds(6, 0, 0), UnderBars.UNKNOWN);
        Check.due("unknown name ahead", x.odds(0, 6, 0), UnderBars.UNKNOWN);
        Check.due("unknown ahead of both", x.odds(6, 0, 2), UnderBars.UNKNOWN);
        Check.due("outside ahead", x.odds(0, 0, 2), UnderBars.OUTSIDE);
        Check.due("outside ahead", x.odds(0, 0, -1), UnderBars.OUTSIDE);
        Check.due("odds", x.odds(0, 0, 1), UnderBars.LARGE);
        Check.due("unknown ahead", x.on(6), UnderBars.UNKNOWN);
        Check.due("on", x.on(5), UnderBars.LARGE);
        Check.due("unknown ahead", x.together(16), UnderBars.UNKNOWN);
        Check.due("together", x.together(15), UnderBars.LARGE);
        Check.due("unknown readers ahead", x.sees(16, 0), UnderBars.UNKNOWN);
        Check.due("unknown bar ahead", x.sees(0, 6), UnderBars.UNKNOWN);
        Check.due("sees", x.sees(15, 5), UnderBars.LARGE);
        Check.due("unknown ahead", x.betrayed(16), UnderBars.UNKNOWN);
        Check.due("betrayed", x.betrayed(15), UnderBars.LARGE);
        Check.due("unknown ahead", x.opened(64), UnderBars.UNKNOWN);
        Check.due("opened", x.opened(63), UnderBars.LARGE);
        Check.due("most", x.most(), UnderBars.LARGE);
        Check.due("fewest", x.fewest(), UnderBars.LARGE);
        Check.due("wider", x.wider(), UnderBars.LARGE);
        Check.due("slack is as it was", x.count(7), 0);
        same("calls that are large", x, large());
    }
}
