/** Promises 1 to 11: a new object, founts, names. */
public final class NamesTest {
    private NamesTest() {
    }

    public static void main(String[] args) {
        aNewObject();
        wide();
        feed();
        name();
        nameWhenFull();
        offices();
        there();
        weight();
        never();
        slack();
        told();
        count();
        Check.end();
    }

    private static void aNewObject() {
        UnderBars x = new UnderBars();
        for (int what = 0; what <= 8; what++) {
            Check.due("new count(" + what + ")", x.count(what), 0);
        }
        Check.due("new fault", x.fault(), UnderBars.NONE);
        Check.due("new readings", x.readings(), 1);
        Check.due("new reading", x.reading(0, 0), UnderBars.UNKNOWN);
        Check.due("new may", x.may(0), UnderBars.UNKNOWN);
        Check.due("new told", x.told(0, 0), UnderBars.UNKNOWN);
        Check.due("new place", x.place(0, 0), UnderBars.UNKNOWN);
        Check.due("new together", x.together(15), 1);
        Check.due("new betrayed", x.betrayed(0), 0);
        Check.due("new opened", x.opened(0), 1);
        Check.due("new most", x.most(), 0);
        Check.due("new fewest", x.fewest(), 0);
        Check.due("new wider", x.wider(), 0);
        for (int letter = 0; letter < 26; letter++) {
            Check.due("new width", x.wide(0, letter, 7), 5);
            Check.due("new width", x.wide(1, letter, 7), 5);
        }
    }

    private static void wide() {
        UnderBars x = new UnderBars();
        Check.names(x, "abba");
        Check.due("wide", x.wide(0, 0, 20), 5);
        Check.due("wide again", x.wide(0, 0, 1), 20);
        Check.due("wide z", x.wide(1, 25, 3), 5);
        Check.due("wide z again", x.wide(1, 25, 3), 3);
        Check.due("width fount 0", x.told(0, 0), 12);
        Check.due("width fount 1", x.told(0, 1), 20);
        Check.due("fount -1", x.wide(-1, 0, 5), UnderBars.OUTSIDE);
        Check.due("fount 2", x.wide(2, 0, 5), UnderBars.OUTSIDE);
        Check.due("letter -1", x.wide(1, -1, 5), UnderBars.OUTSIDE);
        Check.due("letter 26", x.wide(0, 26, 5), UnderBars.OUTSIDE);
        Check.due("v 0", x.wide(0, 0, 0), UnderBars.OUTSIDE);
        Check.due("v 21", x.wide(0, 0, 21), UnderBars.OUTSIDE);
        Check.due("wild", x.wide(Integer.MIN_VALUE, Integer.MAX_VALUE, 5), UnderBars.OUTSIDE);
        Check.due("nothing changed", x.wide(0, 0, 1), 1);
    }

    private static void feed() {
        UnderBars x = new UnderBars();
        Check.due("n 0", x.feed(0, 97), UnderBars.OUTSIDE);
        Check.due("n 9", x.feed(9, 97), UnderBars.OUTSIDE);
        Check.due("n -1", x.feed(-1, 97), UnderBars.OUTSIDE);
        Check.due("higher bytes do not count", x.feed(2, 0x7a7a6162L), 2);
        Check.due("ab", x.name(), 0);
        Check.due("its letters", x.told(0, 6), 2);
        Check.due("ab is ab", Check.name(x, "ab"), UnderBars.NOT);
        Check.due("eight with the sign bit", x.feed(8, -1L), 8);
        Check.due("no letters", x.name(), UnderBars.OUTSIDE);
        for (int k = 1; k <= 14; k++) {
            Check.due("eight more", x.feed(8, 0), 8 * k);
        }
        Check.due("seven more", x.feed(7, 0), 119);
        Check.due("two too many", x.feed(2, 0), UnderBars.FULL);
        Check.due("outside ahead of full", x.feed(9, 0), UnderBars.OUTSIDE);
        Check.due("nothing changed", x.count(6), 119);
        Check.due("the last", x.feed(1, 0), 120);
        Check.due("one too many", x.feed(1, 0), UnderBars.FULL);
    }

    private static void name() {
        UnderBars x = new UnderBars();
        Check.due("no text", x.name(), UnderBars.OUTSIDE);
        Check.due("a", Check.name(x, "a"), 0);
        Check.due("text is empty", x.count(6), 0);
        Check.due("twelve", Check.name(x, "abcdefghijkl"), 1);
        Check.due("thirteen", Check.name(x, "abcdefghijklm"), UnderBars.OUTSIDE);
        Check.due("text is empty of OUTSIDE", x.count(6), 0);
        Check.due("big", Check.name(x, "aB"), UnderBars.OUTSIDE);
        Check.due("blank", Check.name(x, "a b"), UnderBars.OUTSIDE);
        Check.due("blank behind", Check.name(x, "ab "), UnderBars.OUTSIDE);
        Check.due("below a", Check.name(x, "a`"), UnderBars.OUTSIDE);
        Check.due("above z", Check.name(x, "z{"), UnderBars.OUTSIDE);
        Check.due("like one", Check.name(x, "a"), UnderBars.NOT);
        Check.due("text is empty of NOT", x.count(6), 0);
        Check.due("a part", Check.name(x, "abcdefghijk"), 2);
        Check.due("z", Check.name(x, "z"), 3);
        Check.due("names", x.count(0), 4);
        Check.due("offices at first", x.told(3, 2), 15);
        Check.due("from at first", x.told(3, 3), 0);
        Check.due("to at first", x.told(3, 4), 99);
        Check.due("weight at first", x.told(3, 5), 1);
    }

    private static void nameWhenFull() {
        UnderBars x = new UnderBars();
        Check.names(x, "a", "b", "c", "d", "e", "f", "g", "h", "i");
        Check.due("the tenth", Check.name(x, "j"), 9);
        Check.due("like one ahead of full", Check.name(x, "c"), UnderBars.NOT);
        Check.due("outside ahead of full", Check.name(x, "C"), UnderBars.OUTSIDE);
        Check.due("full", Check.name(x, "kk"), UnderBars.FULL);
        Check.due("text stays", x.count(6), 2);
        Check.due("full still", x.name(), UnderBars.FULL);
        Check.due("names", x.count(0), 10);
    }

    private static void offices() {
        UnderBars x = new UnderBars();
        Check.names(x, "a", "b");
        Check.due("offices", x.offices(1, 0), 15);
        Check.due("offices again", x.offices(1, 6), 0);
        Check.due("16", x.offices(1, 16), UnderBars.OUTSIDE);
        Check.due("-1", x.offices(1, -1), UnderBars.OUTSIDE);
        Check.due("name 2", x.offices(2, 16), UnderBars.UNKNOWN);
        Check.due("name -1", x.offices(-1, 1), UnderBars.UNKNOWN);
        Check.due("nothing changed", x.told(1, 2), 6);
        Check.due("the other", x.told(0, 2), 15);
    }

    private static void there() {
        UnderBars x = new UnderBars();
        Check.names(x, "a", "b");
        Check.due("there", x.there(0, 7, 7), 100);
        Check.due("one day", x.there(0, 3, 12), 1);
        Check.due("ten days", x.there(0, 0, 99), 10);
        x.there(0, 20, 30);
        Check.due("b below a", x.there(0, 8, 7), UnderBars.OUTSIDE);
        Check.due("a below 0", x.there(0, -1, 7), UnderBars.OUTSIDE);
        Check.due("b above 99", x.there(0, 8, 100), UnderBars.OUTSIDE);
        Check.due("both above", x.there(0, 100, 100), UnderBars.OUTSIDE);
        Check.due("unknown ahead", x.there(2, 8, 7), UnderBars.UNKNOWN);
        Check.due("from", x.told(0, 3), 20);
        Check.due("to", x.told(0, 4), 30);
        Check.due("the other's", x.told(1, 4), 99);
    }

    private static void weight() {
        UnderBars x = new UnderBars();
        Check.names(x, "a");
        Check.due("weight", x.weight(0, 9), 1);
        Check.due("weight again", x.weight(0, 1), 9);
        Check.due("weight once more", x.weight(0, 2), 1);
        Check.due("0", x.weight(0, 0), UnderBars.OUTSIDE);
        Check.due("10", x.weight(0, 10), UnderBars.OUTSIDE);
        Check.due("unknown ahead", x.weight(1, 10), UnderBars.UNKNOWN);
        Check.due("nothing changed", x.told(0, 5), 2);
    }

    private static void never() {
        UnderBars x = new UnderBars();
        Check.names(x, "a", "b", "c");
        Check.due("never", x.never(0, 2, true), 0);
        Check.due("never the other way", x.never(2, 0, true), 1);
        Check.due("another pair", x.never(1, 2, true), 0);
        Check.due("pairs", x.count(5), 2);
        Check.due("no more", x.never(2, 0, false), 1);
        Check.due("no more again", x.never(0, 2, false), 0);
        Check.due("pairs left", x.count(5), 1);
        Check.due("one twice", x.never(1, 1, true), UnderBars.UNKNOWN);
        Check.due("unknown n", x.never(3, 1, true), UnderBars.UNKNOWN);
        Check.due("unknown m", x.never(1, -1, true), UnderBars.UNKNOWN);
    }

    private static void slack() {
        UnderBars x = new UnderBars();
        Check.due("slack", x.slack(9), 0);
        Check.due("slack again", x.slack(4), 9);
        Check.due("10", x.slack(10), UnderBars.OUTSIDE);
        Check.due("-1", x.slack(-1), UnderBars.OUTSIDE);
        Check.due("count", x.count(7), 4);
    }

    private static void told() {
        UnderBars x = new UnderBars();
        x.wide(1, 1, 20);
        Check.names(x, "abb");
        x.wide(0, 0, 2);
        x.offices(0, 9);
        x.there(0, 11, 22);
        x.weight(0, 8);
        int[] want = {12, 45, 9, 11, 22, 8, 3};
        for (int what = 0; what < want.length; what++) {
            Check.due("told(0, " + what + ")", x.told(0, what), want[what]);
        }
        Check.due("what 7", x.told(0, 7), UnderBars.OUTSIDE);
        Check.due("what -1", x.told(0, -1), UnderBars.OUTSIDE);
        Check.due("unknown ahead", x.told(1, 7), UnderBars.UNKNOWN);
    }

    private static void count() {
        UnderBars x = new UnderBars();
        Check.names(x, "a", "b", "c");
        Check.page(x, "day 0 fount 0: office 0 [5], office 1 a, office 2 [5]");
        Check.page(x, "day 0 fount 0: office 0 b");
        x.twins(0, 1);
        x.never(0, 1, true);
        x.never(0, 2, true);
        x.slack(6);
        x.keep(7);
        x.feed(5, 0);
        int[] want = {3, 2, 4, 2, 1, 2, 5, 6, 3};
        for (int what = 0; what < want.length; what++) {
            Check.due("count(" + what + ")", x.count(what), want[what]);
        }
        Check.due("what 9", x.count(9), UnderBars.OUTSIDE);
        Check.due("what -1", x.count(-1), UnderBars.OUTSIDE);
    }
}
