/** Promises 16 to 21: readings, what may be under a bar, odds, names on pages. */
public final class ReadingsTest {
    private ReadingsTest() {
    }

    public static void main(String[] args) {
        byWidthOfficeAndDay();
        slackBothWays();
        unlikeOnOnePage();
        neverOnOnePage();
        twinsAreTheSame();
        twinsOfTwo();
        readersDoNotMatter();
        withoutNames();
        order();
        threeThousandTries();
        comeToByThen();
        odds();
        on();
        Check.end();
    }

    private static void byWidthOfficeAndDay() {
        UnderBars x = new UnderBars();
        Check.names(x, "aa", "bb", "ccc", "dd");
        x.wide(1, 1, 6);
        Check.page(x, "day 50 fount 0:office 1 [10]");
        Check.page(x, "day 51 fount 1:office 2 [12]");
        Check.due("fits", x.fits(0), 11);
        Check.due("fits in the fount of the page", x.fits(1), 2);
        x.offices(0, 13);
        Check.due("by office", x.fits(0), 10);
        x.there(3, 0, 49);
        Check.due("by day to", x.fits(0), 2);
        x.there(3, 51, 99);
        Check.due("by day from", x.fits(0), 2);
        x.there(3, 50, 50);
        Check.due("by just that day", x.fits(0), 10);
        Check.due("may", x.may(0), 10);
        Check.due("readings", x.readings(), 2);
        Check.due("fits unknown", x.fits(2), UnderBars.UNKNOWN);
        Check.due("fits unknown -1", x.fits(-1), UnderBars.UNKNOWN);
        Check.due("may unknown", x.may(2), UnderBars.UNKNOWN);
    }

    private static void slackBothWays() {
        UnderBars x = new UnderBars();
        Check.names(x, "a", "b", "c", "d", "e");
        for (int letter = 0; letter < 5; letter++) {
            x.wide(0, letter, 8 + letter);
        }
        Check.page(x, "day 0 fount 0:office 0 [10]");
        int[] want = {4, 14, 31};
        for (int v = 0; v < want.length; v++) {
            x.slack(v);
            Check.due("fits by slack " + v, x.fits(0), want[v]);
            Check.due("may by slack " + v, x.may(0), want[v]);
        }
    }

    private static void unlikeOnOnePage() {
        UnderBars x = new UnderBars();
        Check.names(x, "a", "b", "c");
        Check.page(x, "day 0 fount 0:office 0 [5],office 0 [5],office 0 c");
        Check.due("fits alone", x.fits(0), 7);
        Check.due("readings", x.readings(), 2);
        Check.due("may, with those shown behind", x.may(0), 3);
        Check.page(x, "day 0 fount 0:office 0 [5]");
        Check.due("on another page", x.may(2), 7);
        Check.due("readings of both", x.readings(), 6);
    }

    private static void neverOnOnePage() {
        UnderBars x = new UnderBars();
        Check.names(x, "a", "b", "c", "d");
        x.never(0, 1, true);
        x.never(2, 3, true);
        Check.page(x, "day 0 fount 0:office 0 a,office 0 b,office 0 [5]");
        Check.due("both shown: no matter", x.may(0), 12);
        Check.page(x, "day 0 fount 0:office 0 [5],office 0 [5]");
        Check.due("both barred", x.readings(), 2 * 8);
        Check.page(x, "day 0 fount 0:office 0 [5],office 0 d");
        Check.due("one shown", x.may(3), 3);
    }

    private static void twinsAreTheSame() {
        UnderBars x = new UnderBars();
        Check.names(x, "a", "b", "c");
        x.offices(0, 1);
        Check.page(x, "day 0 fount 0:office 0 [5]");
        Check.page(x, "day 0 fount 0:office 1 [5]");
        Check.page(x, "day 0 fount 0:office 0 [5],office 0 b");
        Check.due("alone", x.readings(), 3 * 2 * 2);
        x.twins(1, 0);
        Check.due("two", x.readings(), 2 * 2);
        Check.due("may of the first by the later", x.may(0), 6);
        x.twins(2, 1);
        Check.due("three", x.readings(), 1);
        Check.due("may of all", x.may(0) & x.may(1) & x.may(2), 4);
        Check.page(x, "day 0 fount 0:office 0 [5],office 0 [5]");
        x.twins(3, 4);
        Check.due("twins on one page", x.readings(), 0);
        Check.due("may without readings", x.may(0), 0);
    }

    private static void twinsOfTwo() {
        UnderBars x = new UnderBars();
        Check.names(x, "a", "b", "c");
        for (int k = 0; k < 3; k++) {
            Check.page(x, "day 0 fount 0:office 0 [5]");
        }
        x.twins(2, 0);
        x.twins(2, 1);
        Check.due("the last is the twin of both", x.readings(), 3);
        Check.due("so both are the same", x.reading(1, 0) + x.reading(1, 1) + x.reading(1, 2), 3);
    }

    private static void readersDoNotMatter() {
        UnderBars x = new UnderBars();
        Check.names(x, "a", "b");
        Check.page(x, "day 0 fount 0:office 0 [5]");
        for (int r = 0; r < 4; r++) {
            x.away(r, 1);
            x.knows(r, 0, 1);
        }
        Check.due("readings", x.readings(), 2);
        Check.due("reading", x.reading(0, 0), 0);
        Check.due("may", x.may(0), 3);
        Check.due("odds", x.odds(0, 0, 1), 2);
        Check.due("on", x.on(0), 1);
    }

    private static void withoutNames() {
        UnderBars x = new UnderBars();
        Check.page(x, "day 0 fount 0:office 0 [5],office 0 [5]");
        Check.due("readings", x.readings(), 0);
        Check.due("reading", x.reading(0, 0), UnderBars.NONE);
        Check.due("may", x.may(1), 0);
        Check.due("fits", x.fits(1), 0);
        Check.due("opened", x.opened(1), 0);
        Check.due("most", x.most(), 0);
        Check.due("betrayed", x.betrayed(0), 0);
    }

    private static void order() {
        UnderBars x = new UnderBars();
        Check.names(x, "c", "b", "a");
        Check.page(x, "day 0 fount 0:office 0 [5],office 0 [5]");
        int[][] want = {{0, 1}, {0, 2}, {1, 0}, {1, 2}, {2, 0}, {2, 1}};
        for (int i = 0; i < want.length; i++) {
            Check.due("reading " + i, x.reading(i, 0), want[i][0]);
            Check.due("reading " + i, x.reading(i, 1), want[i][1]);
        }
        Check.due("no such", x.reading(6, 0), UnderBars.NONE);
        Check.due("no such at all", x.reading(Integer.MAX_VALUE, 0), UnderBars.NONE);
        Check.due("below 0", x.reading(-1, 0), UnderBars.OUTSIDE);
        Check.due("unknown ahead", x.reading(-1, 2), UnderBars.UNKNOWN);
        Check.due("unknown bar -1", x.reading(0, -1), UnderBars.UNKNOWN);
    }

    /** Ten names, of which 10 less d are there on day d. */
    static UnderBars tenByDays() {
        UnderBars x = new UnderBars();
        for (int n = 0; n < 10; n++) {
            Check.name(x, String.valueOf((char) ('a' + n)));
            x.there(n, 0, n);
        }
        return x;
    }

    private static void threeThousandTries() {
        // ways to come to a bar: 1, 1, 2, 8, 72, 216: 300 in all, ten tries each
        int[] days = {9, 8, 6, 1, 7, 9};
        UnderBars x = tenByDays();
        for (int day : days) {
            Check.page(x, "day " + day + " fount 0:office 0 [5]");
        }
        Check.due("3000 tries", x.readings(), 216);
        Check.due("may", x.may(3), 1022);
        Check.due("on", x.on(0), 0);
        Check.due("on", x.on(9), 2);
        Check.due("none behind", x.reading(216, 0), UnderBars.NONE);
        Check.due("the last", x.reading(215, 4), 9);
        Check.due("odds", x.odds(1, 8, 1), 2);
        UnderBars y = tenByDays();
        Check.page(y, "day 9 fount 0:office 0 [5]");
        for (int day : days) {
            Check.page(y, "day " + day + " fount 0:office 0 [5]");
        }
        Check.due("3010 tries", y.readings(), UnderBars.LARGE);
        Check.due("large may", y.may(0), UnderBars.LARGE);
        Check.due("large on", y.on(0), UnderBars.LARGE);
        Check.due("large odds", y.odds(0, 0, 0), UnderBars.LARGE);
        Check.due("unknown ahead of large", y.may(7), UnderBars.UNKNOWN);
        Check.due("fits is never large", y.fits(4), 1022);
    }

    private static void comeToByThen() {
        // one name for each of three bars, then ten for each of four: the tries run out in the midst
        UnderBars x = tenByDays();
        for (int k = 0; k < 3; k++) {
            Check.page(x, "day 9 fount 0:office 0 [5]");
        }
        for (int k = 0; k < 4; k++) {
            Check.page(x, "day 0 fount 0:office 0 [5]");
        }
        // 30 tries, then 1 at bar 3, and 1 + 11 * 10 + 1 .. at the bars behind it
        int tries = 0;
        int came = 0;
        tries += 30;
        for (int a = 0; a < 10; a++) {
            tries++;
            for (int b = 0; b < 10; b++) {
                tries++;
                for (int c = 0; c < 10; c++) {
                    tries++;
                    for (int d = 0; d < 10; d++) {
                        tries++;
                        came += tries <= 3000 ? 1 : 0;
                    }
                }
            }
        }
        Check.due("large in all", x.readings(), UnderBars.LARGE);
        int last = came - 1;
        Check.due("the last come to, bar 3", x.reading(last, 3), last / 1000);
        Check.due("the last come to, bar 6", x.reading(last, 6), last % 10);
        Check.due("the next one", x.reading(last + 1, 6), UnderBars.LARGE);
        Check.due("far ahead", x.reading(Integer.MAX_VALUE, 6), UnderBars.LARGE);
    }

    private static void odds() {
        UnderBars x = new UnderBars();
        Check.names(x, "a", "b", "c", "dd");
        x.weight(0, 2);
        x.weight(1, 6);
        x.weight(2, 4);
        Check.page(x, "day 0 fount 0:office 0 [5],office 0 [5]");
        // ab 12, ac 8, ba 12, bc 24, ca 8, cb 24: 88 in all
        long[][] want = {{5, 22}, {9, 22}, {4, 11}, {0, 1}};
        for (int n = 0; n < want.length; n++) {
            Check.due("upper of " + n, x.odds(0, n, 0), want[n][0]);
            Check.due("lower of " + n, x.odds(0, n, 1), want[n][1]);
        }
        Check.page(x, "day 0 fount 0:office 0 [5]");
        x.twins(0, 2);
        // the twin's weight counts as well: ab 24, ac 16, ba 72, bc 144, ca 32, cb 96: 384 in all
        Check.due("upper with twins", x.odds(1, 0, 0), 13);
        Check.due("lower with twins", x.odds(1, 0, 1), 48);
        Check.due("what 2", x.odds(0, 0, 2), UnderBars.OUTSIDE);
        Check.due("what -1", x.odds(0, 0, -1), UnderBars.OUTSIDE);
        Check.due("unknown bar ahead", x.odds(3, 0, 2), UnderBars.UNKNOWN);
        Check.due("unknown name ahead", x.odds(0, 4, 2), UnderBars.UNKNOWN);
        x.twins(0, 1);
        Check.due("no reading", x.odds(0, 0, 0), UnderBars.NOT);
        Check.due("no reading, lower", x.odds(0, 0, 1), UnderBars.NOT);
        Check.due("outside ahead of not", x.odds(0, 0, 2), UnderBars.OUTSIDE);
        manyWeights();
        oneReading();
    }

    private static void oneReading() {
        UnderBars x = new UnderBars();
        Check.names(x, "a", "bb");
        Check.page(x, "day 0 fount 0:office 0 [5]");
        x.weight(0, 7);
        Check.due("sure, upper", x.odds(0, 0, 0), 1);
        Check.due("sure, lower", x.odds(0, 0, 1), 1);
        Check.due("not at all, lower", x.odds(0, 1, 1), 1);
        Check.due("surely by one reading", x.on(0), 2);
        Check.due("not by one reading", x.on(1), 0);
    }

    private static void manyWeights() {
        UnderBars x = new UnderBars();
        Check.names(x, "a", "b");
        x.weight(0, 9);
        x.weight(1, 8);
        for (int k = 0; k < 8; k++) {
            Check.page(x, "day 0 fount 0:office 0 [5]");
        }
        x.twins(0, 1);
        x.twins(1, 2);
        x.twins(2, 3);
        x.twins(3, 4);
        x.twins(4, 5);
        x.twins(5, 6);
        x.twins(6, 7);
        Check.due("9 to the eighth", x.odds(7, 0, 0), 43046721L);
        Check.due("and 8 to the eighth", x.odds(7, 0, 1), 43046721L + 16777216L);
    }

    private static void onByFirstAndLast() {
        UnderBars x = new UnderBars();
        Check.names(x, "a", "b", "cc", "dd");
        Check.due("not, without bars", x.on(0), 0);
        Check.page(x, "day 0 fount 0:office 0 [5]");
        Check.page(x, "day 0 fount 0:office 0 [10]");
        for (int n = 0; n < 4; n++) {
            Check.due("maybe, under one of two bars", x.on(n), 1);
        }
    }

    private static void on() {
        UnderBars x = new UnderBars();
        Check.names(x, "a", "b", "c", "dd");
        Check.page(x, "day 0 fount 0:office 0 [5],office 0 [5]");
        Check.due("maybe", x.on(0), 1);
        Check.due("not", x.on(3), 0);
        x.offices(2, 0);
        Check.due("surely, under some bar", x.on(0), 2);
        Check.due("not any more", x.on(2), 0);
        Check.due("unknown", x.on(4), UnderBars.UNKNOWN);
        Check.page(x, "day 0 fount 0:office 0 dd");
        Check.due("shown", x.on(3), 2);
        x.twins(0, 1);
        Check.due("without readings", x.on(0), 0);
        onByFirstAndLast();
        Check.due("shown without readings", x.on(3), 2);
        UnderBars y = tenByDays();
        for (int k = 0; k < 4; k++) {
            Check.page(y, "day 0 fount 0:office 0 [5]");
        }
        Check.page(y, "day 0 fount 0:office 0 c");
        Check.due("large", y.on(0), UnderBars.LARGE);
        Check.due("shown ahead of large", y.on(2), 2);
    }
}
