/**
 * "LARGE: more than 3000 tries": of every call that may be LARGE, just 3000 tries and the least number above it
 * that can be.
 */
public final class LargeTest {
    /** 1 + 2 + 2 * 6 + 2 * 6 * 5 + 2 * 6 * 5 * 5 ways, for eight names: 3000 tries. */
    private static final int[] ENOUGH = {2, 6, 5, 5, 4};
    /** 1 + 3 + 3 * 4 + 3 * 4 * 5 + 3 * 4 * 5 * 5 ways, for eight names: 3008 tries. */
    private static final int[] BEYOND = {3, 4, 5, 5, 4};

    private LargeTest() {
    }

    public static void main(String[] args) {
        triesByNumberOfNames();
        eachReading();
        ofOneState();
        whatSeemsSure();
        ofPagesOpened();
        ofFewest();
        ofWider();
        ofTriesAheadAlone();
        whatMayNotBeIsTried();
        twinsTakeTries();
        withoutBarsOrNames();
        readersWhoKnowLess();
        Check.end();
    }

    /** Names of one letter: on day d all are there but the first d ones. */
    private static UnderBars names(int many) {
        UnderBars x = new UnderBars();
        for (int n = 0; n < many; n++) {
            Check.name(x, String.valueOf((char) ('a' + n)));
            x.there(n, 0, n);
        }
        return x;
    }

    private static void barFor(UnderBars x, int ways) {
        Check.page(x, "day " + (x.count(0) - ways) + " fount 0:office 0 [5]");
    }

    /** One bar on each page; ways of them each. */
    private static UnderBars bars(int names, int... ways) {
        UnderBars x = names(names);
        for (int w : ways) {
            barFor(x, w);
        }
        return x;
    }

    private static void triesByNumberOfNames() {
        Check.due("3 names, 3000", bars(3, 3, 2, 3, 2, 2, 3, 3, 1).readings(), 648);
        Check.due("3 names, 3009", bars(3, 3, 3, 2, 2, 2, 3, 3, 1).readings(), UnderBars.LARGE);
        Check.due("4 names, 3000", bars(4, 1, 4, 2, 4, 2, 2, 4, 1).readings(), 512);
        Check.due("4 names, 3004", bars(4, 3, 3, 2, 4, 3, 2, 1).readings(), UnderBars.LARGE);
        Check.due("7 names, 2996", bars(7, 7, 4, 2, 6, 2).readings(), 672);
        Check.due("7 names, 3003", bars(7, 1, 7, 4, 2, 6, 2).readings(), UnderBars.LARGE);
        Check.due("8 names, 3000", bars(8, ENOUGH).readings(), 1200);
        Check.due("8 names, 3008", bars(8, BEYOND).readings(), UnderBars.LARGE);
        Check.due("10 names, 3000", bars(10, 1, 1, 9, 4, 7, 10).readings(), 2520);
        Check.due("10 names, 3010", bars(10, 3, 9, 10, 1).readings(), UnderBars.LARGE);
        Check.due("no reading, 3000", bars(8, 2, 6, 5, 5, 0).readings(), 0);
        Check.due("no reading, 3008", bars(8, 3, 4, 5, 5, 0).readings(), UnderBars.LARGE);
    }

    private static void eachReading() {
        // one try each at the fourth bar, and the 3000th of all is one of these
        UnderBars x = bars(10, 10, 10, 10, 10);
        Check.due("the first", x.reading(0, 3), 0);
        Check.due("at the 3000th try, bar 0", x.reading(2699, 0), 2);
        Check.due("at the 3000th try, bar 1", x.reading(2699, 1), 6);
        Check.due("at the 3000th try, bar 3", x.reading(2699, 3), 9);
        Check.due("the next", x.reading(2700, 3), UnderBars.LARGE);
        // the tries 3000 and 3001 give a reading each
        UnderBars y = bars(10, 1, 1, 10, 10, 10, 10);
        Check.due("at the 3000th try", y.reading(2680, 5), 0);
        Check.due("at the 3000th try, the bar ahead", y.reading(2680, 4), 8);
        Check.due("at the 3001st try", y.reading(2681, 5), UnderBars.LARGE);
        Check.due("at the 3001st try, the first bar", y.reading(2681, 0), UnderBars.LARGE);
        Check.due("the last number", y.reading(Integer.MAX_VALUE, 0), UnderBars.LARGE);
        UnderBars z = bars(8, ENOUGH);
        Check.due("the last of 3000 tries", z.reading(1199, 4), 7);
        Check.due("there is no such", z.reading(1200, 4), UnderBars.NONE);
        Check.due("there is no such at all", z.reading(Integer.MAX_VALUE, 0), UnderBars.NONE);
    }

    private static void ofOneState() {
        UnderBars x = bars(8, ENOUGH);
        x.keep(255);
        x.away(0, 0);
        Check.due("may", x.may(0), 0xc0);
        Check.due("may of the last", x.may(4), 0xf0);
        Check.due("odds, upper", x.odds(1, 2, 0), 1);
        Check.due("odds, lower", x.odds(1, 2, 1), 6);
        Check.due("on", x.on(0), 0);
        Check.due("on", x.on(7), 1);
        Check.due("together", x.together(1), 1200);
        Check.due("sees", x.sees(15, 2), 0xf8);
        Check.due("betrayed", x.betrayed(0), 0);
        Check.due("betrayed to some", x.betrayed(15), 0);
        Check.due("opened", x.opened(31), 1);
        Check.due("most", x.most(), 31);
        Check.due("fewest", x.fewest(), 0);
        Check.due("wider", x.wider(), 0);
        UnderBars y = bars(8, BEYOND);
        y.keep(255);
        Check.due("large may", y.may(0), UnderBars.LARGE);
        Check.due("large odds, upper", y.odds(1, 2, 0), UnderBars.LARGE);
        Check.due("large odds, lower", y.odds(1, 2, 1), UnderBars.LARGE);
        Check.due("large on", y.on(7), UnderBars.LARGE);
        Check.due("large together, nobody", y.together(0), UnderBars.LARGE);
        Check.due("large together", y.together(1), UnderBars.LARGE);
        Check.due("large sees", y.sees(15, 2), UnderBars.LARGE);
        Check.due("large betrayed", y.betrayed(0), UnderBars.LARGE);
        Check.due("large betrayed to some", y.betrayed(15), UnderBars.LARGE);
        Check.due("large opened", y.opened(31), UnderBars.LARGE);
        Check.due("large most", y.most(), UnderBars.LARGE);
        Check.due("large fewest", y.fewest(), UnderBars.LARGE);
        Check.due("large wider", y.wider(), UnderBars.LARGE);
        Check.due("not fits", y.fits(0), 0xe0);
        Check.due("nor what is shown", shownBeside(y).on(7), 2);
    }

    /** The first bar is told, as far as the readings are come to; it is LARGE all the same. */
    private static void whatSeemsSure() {
        UnderBars x = bars(8, 1, 8, 8, 8, 8);
        x.keep(128);
        Check.due("the first reading", x.reading(0, 0), 7);
        Check.due("on", x.on(7), UnderBars.LARGE);
        Check.due("may", x.may(0), UnderBars.LARGE);
        Check.due("odds", x.odds(0, 7, 0), UnderBars.LARGE);
        Check.due("odds of another", x.odds(0, 0, 0), UnderBars.LARGE);
        Check.due("betrayed", x.betrayed(0), UnderBars.LARGE);
        Check.due("opened", x.opened(31), UnderBars.LARGE);
        // and where none is come to: the last bar has nobody
        UnderBars y = bars(8, 1, 8, 8, 8, 0);
        y.keep(128);
        Check.due("readings", y.readings(), UnderBars.LARGE);
        Check.due("reading", y.reading(0, 0), UnderBars.LARGE);
        Check.due("on", y.on(7), UnderBars.LARGE);
        Check.due("may", y.may(4), UnderBars.LARGE);
        Check.due("odds", y.odds(0, 7, 0), UnderBars.LARGE);
        Check.due("betrayed", y.betrayed(0), UnderBars.LARGE);
        Check.due("opened", y.opened(31), UnderBars.LARGE);
        Check.due("fewest", y.fewest(), UnderBars.LARGE);
        Check.due("wider", y.wider(), UnderBars.LARGE);
    }

    private static UnderBars shownBeside(UnderBars x) {
        Check.page(x, "day 0 fount 0:office 0 h");
        return x;
    }

    private static void ofPagesOpened() {
        // the bars of the pages opened alone are tried
        UnderBars x = names(8);
        barFor(x, 8);
        for (int w : ENOUGH) {
            barFor(x, w);
        }
        Check.due("all are large", x.opened(63), UnderBars.LARGE);
        Check.due("without the first: 3000", x.opened(62), 1);
        Check.due("most looks at all first", x.most(), UnderBars.LARGE);
        UnderBars y = names(8);
        Check.page(y, "day 0 fount 0:office 0 a,office 0 [5]");
        for (int w : ENOUGH) {
            barFor(y, w);
        }
        y.keep(1);
        Check.due("not large where one kept is shown", y.most(), 62);
        UnderBars z = names(8);
        for (int w : BEYOND) {
            barFor(z, w);
        }
        Check.page(z, "day 0 fount 0:office 0 a");
        z.keep(1);
        Check.due("all: shown, then large", z.most(), UnderBars.LARGE);
        Check.due("shown is looked at first", z.opened(63), 0);
        Check.due("large", z.opened(31), UnderBars.LARGE);
    }

    /** The last bar is one that is barred too. */
    private static UnderBars withLastOpen(int[] ways) {
        UnderBars x = names(8);
        for (int k = 0; k < ways.length - 1; k++) {
            barFor(x, ways[k]);
        }
        Check.page(x, "day " + (8 - ways[ways.length - 1]) + " fount 0:office 0 h");
        x.keep(128);
        return x;
    }

    private static void ofFewest() {
        Check.due("3000 with one more", withLastOpen(ENOUGH).fewest(), 1);
        Check.due("3008 with one more", withLastOpen(BEYOND).fewest(), UnderBars.LARGE);
        UnderBars x = withLastOpen(BEYOND);
        x.keep(0);
        Check.due("with none more", x.fewest(), 0);
        // a set that would do comes behind one that is large
        UnderBars y = withLastOpen(BEYOND);
        Check.page(y, "day 0 fount 0:office 0 h");
        Check.due("of two shown both have to be barred", y.fewest(), UnderBars.LARGE);
        y.keep(1);
        Check.due("without the places shown it is small", y.fewest(), 0);
    }

    /** At slack 0 the last name alone fits, at 1 all those who are there. */
    private static UnderBars narrow(int[] ways) {
        UnderBars x = bars(8, ways);
        for (int letter = 0; letter < 7; letter++) {
            x.wide(0, letter, 6);
        }
        x.keep(128);
        return x;
    }

    private static void ofWider() {
        Check.due("3000 at 1", narrow(ENOUGH).wider(), 1);
        Check.due("3008 at 1", narrow(BEYOND).wider(), UnderBars.LARGE);
        UnderBars x = narrow(BEYOND);
        x.keep(1);
        Check.due("at 0 it is small", x.wider(), 0);
        x.slack(1);
        Check.due("at slack itself it is not", x.wider(), UnderBars.LARGE);
    }

    /** What may be at the last bar takes no further tries. */
    private static void ofTriesAheadAlone() {
        Check.due("8 at the last", bars(8, 2, 6, 5, 5, 8).readings(), 2400);
        Check.due("1 at the last", bars(8, 2, 6, 5, 5, 1).readings(), 300);
        UnderBars x = bars(8, 2, 6, 5, 5, 8);
        barFor(x, 8);
        Check.due("a bar more", x.readings(), UnderBars.LARGE);
    }

    /** All names are tried at each bar, those too that never could stand there. */
    private static void whatMayNotBeIsTried() {
        UnderBars x = bars(8, ENOUGH);
        Check.due("3000", x.readings(), 1200);
        Check.due("a name that fits nowhere", Check.name(x, "zz"), 8);
        Check.due("is tried as well", x.readings(), UnderBars.LARGE);
        UnderBars y = new UnderBars();
        Check.names(y, "a", "b", "c", "d", "e", "f");
        // 1 + 6 + 30 + 120 ways on one page, six names: 942 tries, and 360 ways to the next page
        Check.page(y, "day 0 fount 0:office0[5],office0[5],office0[5],office0[5]");
        Check.due("unlike on one page", y.readings(), 360);
        Check.page(y, "day 0 fount 0:office0[9]");
        Check.due("942 and 2160 tries", y.readings(), UnderBars.LARGE);
        y.never(0, 1, true);
        Check.due("less, where two are never on one page", y.readings(), 0);
    }

    /** Twins are ways ahead like others: each name is tried at both. */
    private static void twinsTakeTries() {
        UnderBars x = bars(10, 10, 10, 10);
        x.twins(0, 1);
        x.twins(1, 2);
        Check.due("10 + 100 + 100 tries", x.readings(), 10);
        barFor(x, 10);
        barFor(x, 10);
        Check.due("10 + 100 + 100 + 100 + 1000 tries", x.readings(), 1000);
        barFor(x, 10);
        Check.due("and 10000", x.readings(), UnderBars.LARGE);
        x.twins(3, 4);
        x.twins(4, 5);
        Check.due("10 + 3 * 100 + 2 * 1000 tries", x.readings(), 100);
        Check.due("the last", x.reading(99, 5), 9);
        // one pair alone, of bars 0 and 3, is known too late to spare tries
        UnderBars y = bars(10, 10, 10, 10, 10);
        y.twins(0, 3);
        Check.due("twins do not spare the tries ahead", y.readings(), UnderBars.LARGE);
    }

    private static void withoutBarsOrNames() {
        UnderBars x = new UnderBars();
        Check.due("no bars, no names", x.readings(), 1);
        String four = "day 0 fount 0:office0[5],office0[5],office0[5],office0[5]";
        Check.page(x, four);
        Check.page(x, four);
        Check.page(x, "day 0 fount 0:office0[5],office0[5]");
        Check.due("ten bars, no names", x.readings(), 0);
        Check.due("no reading", x.reading(0, 9), UnderBars.NONE);
        UnderBars y = names(10);
        for (int k = 0; k < 8; k++) {
            Check.page(y, "day 0 fount 0:office0 a,office0 b,office0 c,office0 d");
        }
        Check.due("ten names, no bars", y.readings(), 1);
        y.keep(15);
        Check.due("kept ones shown behind the eighth: no search at all", y.fewest(), UnderBars.NONE);
        UnderBars z = names(10);
        Check.page(z, "day 0 fount 0:office0 a,office0 b,office0 c,office0 d");
        Check.page(z, "day 0 fount 0:office0 a,office0 b,office0 c,office0 d");
        z.keep(15);
        Check.due("all eight barred", z.fewest(), UnderBars.LARGE);
    }

    /** Who knows that names are away tries them all the same, but there are fewer ways. */
    private static void readersWhoKnowLess() {
        UnderBars x = bars(8, 3, 6, 5, 5, 4);
        Check.due("3 for 2: large", x.readings(), UnderBars.LARGE);
        x.knows(0, 0, 7);
        Check.due("1 + 1 + 6 + 30 + 150 ways", x.together(1), 600);
        Check.due("the one", x.sees(1, 0), 128);
        x.knows(1, 0, 6);
        Check.due("unlike ones: no reading", x.together(3), 0);
        Check.due("nor may", x.sees(3, 4), 0);
        x.away(2, 32);
        Check.due("away: 2, 5, 4, 4, 3 ways", x.together(4), 2 * 5 * 4 * 4 * 3);
        Check.due("nobody: large still", x.together(0), UnderBars.LARGE);
        x.away(2, 0);
        Check.due("no longer away", x.together(4), UnderBars.LARGE);
    }
}
