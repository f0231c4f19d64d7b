/** Sections 1, 3 and 4: nothing yet, all that may be, and the bounds of what fits, by the least step. */
public final class BoundsTest {
    private BoundsTest() {
    }

    public static void main(String[] args) {
        nothingYet();
        namesAlone();
        barsAlone();
        lettersOfFounts();
        rowsOfLetters();
        officesOfNames();
        daysOfNames();
        slackMoreOrLess();
        narrowestAndWidest();
        neverOfAllPairs();
        allPlaces();
        allPlacesAndAllBars();
        tenBars();
        greatestWeights();
        oddsFromNoughtToOne();
        onByReadings();
        eachReader();
        knowsEachBar();
        keptOnes();
        pagesOpened();
        mostOfEight();
        fewestOfEight();
        fewestWithAllBars();
        widerByOne();
        Check.end();
    }

    private static void refusedAsNothingIsThere(UnderBars x) {
        Check.due("place", x.place(0, 0), UnderBars.UNKNOWN);
        Check.due("twins", x.twins(0, 1), UnderBars.UNKNOWN);
        Check.due("reading", x.reading(0, 0), UnderBars.UNKNOWN);
        Check.due("may", x.may(0), UnderBars.UNKNOWN);
        Check.due("fits", x.fits(0), UnderBars.UNKNOWN);
        Check.due("odds", x.odds(0, 0, 0), UnderBars.UNKNOWN);
        Check.due("knows", x.knows(0, 0, UnderBars.NONE), UnderBars.UNKNOWN);
        Check.due("sees", x.sees(0, 0), UnderBars.UNKNOWN);
        Check.due("opened", x.opened(1), UnderBars.UNKNOWN);
    }

    private static void answersWithoutPages(UnderBars x) {
        Check.due("readings", x.readings(), 1);
        for (int readers = 0; readers < 16; readers++) {
            Check.due("together", x.together(readers), 1);
            Check.due("betrayed", x.betrayed(readers), 0);
        }
        Check.due("opened none", x.opened(0), 1);
        Check.due("most", x.most(), 0);
        Check.due("fewest", x.fewest(), 0);
        Check.due("wider", x.wider(), 0);
        Check.due("fault", x.fault(), UnderBars.NONE);
        for (int what = 1; what <= 4; what++) {
            Check.due("count", x.count(what), 0);
        }
    }

    private static void nothingYet() {
        UnderBars x = new UnderBars();
        refusedAsNothingIsThere(x);
        answersWithoutPages(x);
        Check.due("offices", x.offices(0, 15), UnderBars.UNKNOWN);
        Check.due("there", x.there(0, 0, 99), UnderBars.UNKNOWN);
        Check.due("weight", x.weight(0, 1), UnderBars.UNKNOWN);
        Check.due("never", x.never(0, 1, true), UnderBars.UNKNOWN);
        Check.due("told", x.told(0, 0), UnderBars.UNKNOWN);
        Check.due("on", x.on(0), UnderBars.UNKNOWN);
        Check.due("away", x.away(0, 1), UnderBars.UNKNOWN);
        Check.due("keep", x.keep(1), UnderBars.UNKNOWN);
        Check.due("away none", x.away(3, 0), 0);
        Check.due("keep none", x.keep(0), 0);
        Check.due("slack", x.slack(0), 0);
        Check.due("no text is no name", x.name(), UnderBars.OUTSIDE);
        Check.due("no text is no page", x.page(), -11);
        Check.due("at its end", x.fault(), 0);
        for (int what = 0; what <= 8; what++) {
            Check.due("count", x.count(what), 0);
        }
    }

    private static void namesAlone() {
        UnderBars x = new UnderBars();
        Check.names(x, "a", "b");
        x.keep(3);
        x.away(0, 3);
        x.slack(0);
        refusedAsNothingIsThere(x);
        answersWithoutPages(x);
        Check.due("on none", x.on(0), 0);
        Check.due("on none", x.on(1), 0);
        Check.due("kept", x.count(8), 2);
        x.slack(9);
        Check.due("slack itself", x.wider(), 9);
    }

    private static void barsAlone() {
        UnderBars x = new UnderBars();
        Check.page(x, "day 0 fount 0:office 0 [5]");
        Check.due("no readings", x.readings(), 0);
        Check.due("no reading", x.reading(0, 0), UnderBars.NONE);
        Check.due("may", x.may(0), 0);
        Check.due("fits", x.fits(0), 0);
        Check.due("odds: no name", x.odds(0, 0, 0), UnderBars.UNKNOWN);
        Check.due("together", x.together(15), 0);
        Check.due("sees", x.sees(0, 0), 0);
        Check.due("knows nothing", x.knows(0, 0, UnderBars.NONE), UnderBars.NONE);
        Check.due("knows no name", x.knows(0, 0, 0), UnderBars.UNKNOWN);
        Check.due("betrayed", x.betrayed(0), 0);
        Check.due("not opened without a reading", x.opened(1), 0);
        Check.due("most", x.most(), 0);
        Check.due("fewest", x.fewest(), 0);
        Check.due("wider", x.wider(), 0);
        Check.due("a name", Check.name(x, "a"), 0);
        Check.due("readings with it", x.readings(), 1);
        Check.due("opened with it", x.opened(1), 1);
    }

    private static void lettersOfFounts() {
        UnderBars x = new UnderBars();
        for (int letter = 0; letter < 26; letter++) {
            Check.due("at first", x.wide(0, letter, letter % 20 + 1), 5);
            Check.due("at first", x.wide(1, letter, 20 - letter % 20), 5);
        }
        Check.names(x, "abcdefghi", "jklmnopqrs", "tuvwxyz", "a", "z", "aaaaaaaaaaaa");
        int[] zero = {45, 145, 41, 1, 6, 12};
        int[] one = {144, 65, 106, 20, 15, 240};
        for (int n = 0; n < zero.length; n++) {
            Check.due("width of " + n, x.told(n, 0), zero[n]);
            Check.due("width of " + n + " in fount 1", x.told(n, 1), one[n]);
        }
        Check.due("the last one's change", x.wide(1, 25, 20), 15);
        Check.due("is that of the name", x.told(4, 1), 20);
        Check.due("in its fount alone", x.told(4, 0), 6);
        Check.due("once in each z", x.told(2, 1), 111);
    }

    private static void rowsOfLetters() {
        UnderBars x = new UnderBars();
        String row = "zyxwvutsrqpon";
        for (int k = 1; k <= 9; k++) {
            Check.due("letters " + k, Check.name(x, row.substring(0, k)), k - 1);
            Check.due("so many", x.told(k - 1, 6), k);
        }
        Check.due("thirteen", Check.name(x, row), UnderBars.OUTSIDE);
        Check.due("twelve", Check.name(x, row.substring(0, 12)), 9);
        Check.due("so many", x.told(9, 6), 12);
        for (int k = 1; k <= 9; k++) {
            Check.due("like one", Check.name(x, row.substring(0, k)), UnderBars.NOT);
        }
        Check.due("like the last", Check.name(x, row.substring(0, 12)), UnderBars.NOT);
        Check.due("eleventh", Check.name(x, row.substring(0, 11)), UnderBars.FULL);
        UnderBars y = new UnderBars();
        Check.due("ab", Check.name(y, "ab"), 0);
        Check.due("ba is another", Check.name(y, "ba"), 1);
        Check.due("aab is another", Check.name(y, "aab"), 2);
        Check.due("ac differs in the last", Check.name(y, "ac"), 3);
        Check.due("bb differs in the first", Check.name(y, "bb"), 4);
    }

    private static void officesOfNames() {
        UnderBars x = new UnderBars();
        Check.names(x, "a");
        Check.page(x, "day 0 fount 0:office 0 [5],office 1 [5],office 2 [5],office 3 [5]");
        int was = 15;
        for (int set = 0; set < 16; set++) {
            Check.due("offices", x.offices(0, set), was);
            was = set;
            for (int office = 0; office < 4; office++) {
                Check.due("set " + set + ", office " + office, x.fits(office), set >> office & 1);
            }
        }
    }

    private static void daysOfNames() {
        UnderBars x = new UnderBars();
        Check.names(x, "a");
        int[] days = {0, 1, 49, 50, 51, 98, 99};
        for (int day : days) {
            Check.page(x, "day " + day + " fount 0:office 0 [5]");
        }
        int were = 100;
        for (int from : days) {
            for (int to : days) {
                if (from <= to) {
                    Check.due("from " + from + " to " + to, x.there(0, from, to), were);
                    were = to - from + 1;
                    fitsOnDays(x, days, from, to);
                }
            }
        }
    }

    private static void fitsOnDays(UnderBars x, int[] days, int from, int to) {
        for (int b = 0; b < days.length; b++) {
            boolean isThere = from <= days[b] && days[b] <= to;
            Check.due("there " + from + " to " + to + " on " + days[b], x.fits(b), isThere ? 1 : 0);
        }
    }

    private static void slackMoreOrLess() {
        for (int v = 0; v <= 9; v++) {
            UnderBars x = new UnderBars();
            Check.names(x, "aaaa");
            x.slack(v);
            int[] wide = {20 - v - 1, 20 - v, 20, 20 + v, 20 + v + 1};
            int[] want = {0, 1, 1, 1, 0};
            for (int b = 0; b < wide.length; b++) {
                Check.page(x, "day 0 fount 0:office 0 [" + wide[b] + "]");
                Check.due("slack " + v + ", bar " + wide[b], x.fits(b), want[b]);
                Check.due("may: slack " + v + ", bar " + wide[b], x.opened(1 << b), want[b]);
            }
        }
    }

    private static void narrowestAndWidest() {
        UnderBars x = new UnderBars();
        for (int letter = 0; letter < 20; letter++) {
            x.wide(0, letter, letter + 1);
        }
        x.slack(9);
        Check.names(x, "a", "j", "k", "tttttttttj", "tttttttttk", "tttttttttti", "ttttttttttj", "tttttttttttt");
        Check.page(x, "day 0 fount 0:office 0 [1],office 0 [200]");
        int[] wide = {1, 10, 11, 190, 191, 209, 210, 240};
        for (int n = 0; n < wide.length; n++) {
            Check.due("width of " + n, x.told(n, 0), wide[n]);
        }
        Check.due("the narrowest bar: 1, 10", x.fits(0), 3);
        Check.due("the widest bar: 191, 209", x.fits(1), 16 + 32);
        x.slack(8);
        Check.due("by one less, the narrowest", x.fits(0), 1);
        Check.due("by one less, the widest", x.fits(1), 0);
    }

    private static void neverOfAllPairs() {
        UnderBars x = new UnderBars();
        Check.names(x, "a", "b", "c", "d", "e", "f", "g", "h", "i", "j");
        int pairs = 0;
        for (int n = 0; n < 10; n++) {
            for (int m = 0; m < n; m++) {
                Check.due("not yet", x.never(n, m, true), 0);
                pairs++;
                Check.due("pairs", x.count(5), pairs);
                Check.due("already", x.never(m, n, true), 1);
            }
        }
        Check.due("all pairs", x.count(5), 45);
        Check.page(x, "day 0 fount 0:office 0 [5]");
        Check.due("one alone", x.readings(), 10);
        Check.page(x, "day 0 fount 0:office 0 [5],office 0 [5]");
        Check.due("no two of them", x.readings(), 0);
        Check.due("no longer", x.never(0, 9, false), 1);
        Check.due("pairs left", x.count(5), 44);
        Check.due("this pair alone, both ways", x.readings(), 20);
        Check.due("no longer as it is", x.never(9, 0, false), 0);
        Check.due("pairs as they were", x.count(5), 44);
    }

    private static void allPlaces() {
        UnderBars x = new UnderBars();
        Check.names(x, "a", "bb", "ccc", "dddd");
        x.wide(1, 0, 9);
        String names = "office 3 a,office 2 bb,office 1 ccc,office 0 dddd";
        for (int page = 0; page < 8; page++) {
            Check.due("place ahead of its page", x.place(4 * page, 0), UnderBars.UNKNOWN);
            Check.due("page", Check.page(x, "day 0 fount " + page % 2 + ":" + names), page);
            Check.due("places", x.count(2), 4 * page + 4);
        }
        int[] wide = {5, 10, 15, 20};
        for (int p = 0; p < 32; p++) {
            Check.due("page of " + p, x.place(p, 0), p / 4);
            Check.due("office of " + p, x.place(p, 1), 3 - p % 4);
            Check.due("shown at " + p, x.place(p, 2), p % 4);
            Check.due("no bar at " + p, x.place(p, 3), UnderBars.NONE);
            Check.due("width of " + p, x.place(p, 4), p % 4 == 0 && p / 4 % 2 == 1 ? 9 : wide[p % 4]);
        }
        Check.due("no place behind", x.place(32, 0), UnderBars.UNKNOWN);
        Check.feed(x, "day 0 fount 0:office 0 a");
        Check.due("no page behind", x.page(), UnderBars.FULL);
        Check.due("no bars", x.count(3), 0);
        Check.due("shown", x.on(3), 2);
        x.keep(8);
        Check.due("shown on each page", x.most(), 0);
    }

    /** 32 places, ten of them bars. */
    private static void allPlacesAndAllBars() {
        UnderBars x = new UnderBars();
        Check.names(x, "a", "b", "c", "d", "ee");
        for (int page = 0; page < 8; page++) {
            String fourth = page < 2 ? "[10]" : "d";
            Check.page(x, "day 0 fount 0:office 0 a,office 0 [5],office 0 b,office 0 " + fourth);
        }
        Check.due("places", x.count(2), 32);
        Check.due("bars", x.count(3), 10);
        Check.due("the last place", x.place(31, 2), 3);
        Check.due("the last bar", x.place(29, 3), 9);
        Check.due("c or d on the first two pages", x.readings(), 4);
        Check.due("the last bar is told", x.may(9), 4);
        Check.due("may of the first", x.may(0), 12);
        Check.due("on, under bars alone", x.on(4), 2);
        x.keep(4);
        Check.due("betrayed", x.betrayed(0), 4);
        Check.due("wider: told up to 4, large at 5", x.wider(), UnderBars.LARGE);
        Check.due("most", x.most(), 3);
        Check.due("the last page", x.opened(128), 0);
        Check.due("the first", x.opened(1), 1);
    }

    private static void tenBars() {
        UnderBars x = new UnderBars();
        Check.names(x, "a");
        Check.page(x, "day 0 fount 0:office 0 [1],office 0 a,office 0 [2],office 0 [3]");
        Check.page(x, "day 0 fount 0:office 0 a");
        Check.page(x, "day 0 fount 0:office 0 [4],office 0 [5],office 0 [6],office 0 [7]");
        Check.page(x, "day 0 fount 0:office 0 a,office 0 [8],office 0 [9],office 0 [10]");
        int[] bars = {0, -1, 1, 2, -1, 3, 4, 5, 6, -1, 7, 8, 9};
        for (int p = 0; p < bars.length; p++) {
            Check.due("bar at " + p, x.place(p, 3), bars[p]);
            Check.due("shown at " + p, x.place(p, 2), bars[p] < 0 ? 0 : UnderBars.NONE);
            Check.due("width at " + p, x.place(p, 4), bars[p] < 0 ? 5 : bars[p] + 1);
        }
        for (int b = 0; b < 10; b++) {
            Check.due("fits bar " + b, x.fits(b), b == 4 ? 1 : 0);
        }
        Check.due("no bar 10", x.fits(10), UnderBars.UNKNOWN);
        Check.due("bars", x.count(3), 10);
        Check.due("twins of the first and the last", x.twins(9, 0), 1);
    }

    /** Ten bars, each with the greatest weight: 9 to the tenth is more than an int holds. */
    private static void greatestWeights() {
        UnderBars x = new UnderBars();
        Check.names(x, "a", "b", "c", "d", "e", "f", "g", "h");
        String four = "day 0 fount 0:office 0 [5],office 1 [5],office 2 [5],office 3 [5]";
        Check.page(x, four);
        Check.page(x, four);
        Check.page(x, "day 0 fount 0:office 0 [5],office 1 [5]");
        for (int n = 0; n < 8; n++) {
            x.offices(n, 1 << n % 4);
            x.weight(n, n < 4 ? 9 : 8);
        }
        // the pages are alike by twins, and on each are names 0 to 3 or 4 to 7
        for (int k = 0; k < 4; k++) {
            x.twins(k, k + 4);
        }
        x.twins(0, 8);
        x.twins(1, 9);
        for (int n = 0; n < 4; n++) {
            for (int m = 4; m < 8; m++) {
                x.never(n, m, true);
            }
        }
        Check.due("two readings", x.readings(), 2);
        Check.due("9 to the tenth", x.odds(3, 3, 0), 3486784401L);
        Check.due("and 8 to the tenth", x.odds(3, 3, 1), 3486784401L + 1073741824L);
        Check.due("8 to the tenth", x.odds(9, 5, 0), 1073741824L);
    }

    private static void oddsFromNoughtToOne() {
        UnderBars x = new UnderBars();
        Check.names(x, "a", "b", "cc");
        Check.page(x, "day 0 fount 0:office 0 [5]");
        x.weight(0, 9);
        x.weight(1, 9);
        Check.due("in least terms, upper", x.odds(0, 0, 0), 1);
        Check.due("in least terms, lower", x.odds(0, 0, 1), 2);
        Check.due("not at all, upper", x.odds(0, 2, 0), 0);
        Check.due("not at all, lower", x.odds(0, 2, 1), 1);
        x.weight(1, 1);
        Check.due("9 of 10, upper", x.odds(0, 0, 0), 9);
        Check.due("9 of 10, lower", x.odds(0, 0, 1), 10);
        x.offices(1, 0);
        Check.due("sure, upper", x.odds(0, 0, 0), 1);
        Check.due("sure, lower", x.odds(0, 0, 1), 1);
        Check.due("out, upper", x.odds(0, 1, 0), 0);
        Check.due("out, lower", x.odds(0, 1, 1), 1);
        x.offices(0, 0);
        for (int n = 0; n < 3; n++) {
            Check.due("no reading, upper", x.odds(0, n, 0), UnderBars.NOT);
            Check.due("no reading, lower", x.odds(0, n, 1), UnderBars.NOT);
        }
    }

    private static void onByReadings() {
        UnderBars x = new UnderBars();
        Check.names(x, "a", "b", "c", "d");
        x.offices(3, 0);
        Check.page(x, "day 0 fount 0:office 0 [5],office 0 [5],office 0 [5]");
        for (int n = 0; n < 3; n++) {
            Check.due("surely, though no bar is told", x.on(n), 2);
        }
        Check.due("not", x.on(3), 0);
        x.offices(3, 1);
        for (int n = 0; n < 4; n++) {
            Check.due("maybe", x.on(n), 1);
        }
        x.never(0, 1, true);
        Check.due("surely beside either", x.on(2), 2);
        Check.due("either", x.on(1), 1);
        x.never(2, 3, true);
        for (int n = 0; n < 4; n++) {
            Check.due("no readings", x.on(n), 0);
        }
        Check.page(x, "day 0 fount 0:office 0 b");
        Check.due("shown, without readings", x.on(1), 2);
        Check.due("not shown", x.on(0), 0);
    }

    private static void eachReader() {
        UnderBars x = new UnderBars();
        Check.names(x, "a", "b", "c", "d", "e");
        Check.page(x, "day 0 fount 0:office 0 [5]");
        for (int r = 0; r < 4; r++) {
            Check.due("knew nothing", x.away(r, 0), 0);
            Check.due("still nothing", x.away(r, 1 << r), 0);
        }
        for (int readers = 0; readers < 16; readers++) {
            Check.due("left to " + readers, x.sees(readers, 0), 31 & ~readers);
            Check.due("readings of " + readers, x.together(readers), 5 - Integer.bitCount(readers));
        }
        Check.due("all names", x.away(2, 31), 4);
        Check.due("no reading", x.together(4), 0);
        Check.due("sees nothing", x.sees(4, 0), 0);
        Check.due("nor with others", x.together(5), 0);
        Check.due("others do", x.together(3), 3);
        Check.due("what was told is dropped", x.away(2, 16), 31);
        Check.due("left", x.sees(4, 0), 15);
        Check.due("none any more", x.away(2, 0), 16);
        Check.due("all may be", x.sees(4, 0), 31);
        Check.due("a sixth is none yet", x.away(0, 32), UnderBars.UNKNOWN);
        Check.names(x, "f");
        Check.due("and is now", x.away(0, 32), 1);
        Check.due("left", x.sees(1, 0), 31);
    }

    private static void knowsEachBar() {
        UnderBars x = new UnderBars();
        Check.names(x, "a", "b", "c");
        for (int k = 0; k < 3; k++) {
            Check.page(x, "day 0 fount 0:office 0 [5]");
        }
        for (int r = 0; r < 4; r++) {
            for (int b = 0; b < 3; b++) {
                Check.due("knew nothing", x.knows(r, b, UnderBars.NONE), UnderBars.NONE);
                Check.due("still nothing", x.knows(r, b, (r + b) % 3), UnderBars.NONE);
            }
        }
        for (int r = 0; r < 4; r++) {
            for (int b = 0; b < 3; b++) {
                Check.due("of this bar", x.sees(1 << r, b), 1 << (r + b) % 3);
            }
            Check.due("one reading", x.together(1 << r), 1);
        }
        Check.due("0 and 3 know the same", x.together(9), 1);
        Check.due("0 and 1 do not", x.together(3), 0);
        Check.due("a later word", x.knows(1, 0, 0), 1);
        x.knows(1, 1, 1);
        Check.due("but of one bar", x.together(3), 0);
        x.knows(1, 2, 2);
        Check.due("of all bars the same", x.together(3), 1);
        Check.due("no longer", x.knows(1, 2, UnderBars.NONE), 2);
        Check.due("alone", x.together(2), 3);
        Check.due("with 0", x.together(3), 1);
        x.away(2, 1 << 2);
        Check.due("what is away and there", x.together(4), 0);
        Check.due("with the other", x.together(6), 0);
        Check.due("nobody", x.together(0), 27);
    }

    private static void keptOnes() {
        UnderBars x = new UnderBars();
        Check.due("none", x.keep(0), 0);
        for (int n = 0; n < 10; n++) {
            Check.due("not yet " + n, x.keep(1 << n), UnderBars.UNKNOWN);
            Check.name(x, String.valueOf((char) ('a' + n)));
            Check.due("now " + n, x.keep(1 << n), n == 0 ? 0 : 1 << n - 1);
            Check.due("one kept", x.count(8), 1);
        }
        Check.due("all", x.keep(1023), 512);
        Check.due("ten kept", x.count(8), 10);
        Check.due("one too many", x.keep(1024), UnderBars.UNKNOWN);
        Check.due("all and one", x.keep(2047), UnderBars.UNKNOWN);
        Check.due("ten still", x.count(8), 10);
        // two may be under the bar, then one, then none
        Check.page(x, "day 0 fount 0:office 1 [5]");
        for (int n = 2; n < 10; n++) {
            x.offices(n, 13);
        }
        Check.due("two may be", x.betrayed(0), 0);
        x.offices(0, 0);
        Check.due("just one", x.betrayed(0), 2);
        x.keep(1021);
        Check.due("who is not kept", x.betrayed(0), 0);
        x.keep(2);
        x.offices(1, 0);
        Check.due("none", x.betrayed(0), 0);
    }

    private static void pagesOpened() {
        UnderBars x = new UnderBars();
        Check.names(x, "a", "b");
        for (int page = 0; page < 8; page++) {
            Check.due("not yet", x.opened(1 << page), UnderBars.UNKNOWN);
            Check.page(x, "day 0 fount 0:office 0 " + (page % 2 == 0 ? "a" : "b"));
            Check.due("now", x.opened(1 << page), 1);
        }
        Check.due("all", x.opened(255), 1);
        Check.due("a ninth", x.opened(256), UnderBars.UNKNOWN);
        x.keep(1);
        for (int page = 0; page < 8; page++) {
            Check.due("shown on every other", x.opened(1 << page), page % 2);
        }
        Check.due("those of b", x.opened(0xaa), 1);
        Check.due("and one of a", x.opened(0xab), 0);
        Check.due("most", x.most(), 0xaa);
        x.keep(3);
        Check.due("none at all", x.most(), 0);
        Check.due("none may always be", x.opened(0), 1);
    }

    private static void mostOfEight() {
        UnderBars x = new UnderBars();
        Check.names(x, "a", "b", "c");
        x.offices(0, 1);
        x.offices(1, 2);
        x.offices(2, 3);
        for (int k = 0; k < 8; k++) {
            Check.page(x, "day 0 fount 0:office " + k % 2 + " [5]");
        }
        x.keep(4);
        Check.due("all eight", x.most(), 255);
        // an even page alone may be a's or c's, an odd one b's or c's, two that are twins c's alone
        for (int k = 0; k < 7; k++) {
            x.twins(k, k + 1);
        }
        Check.due("of four without neighbours the least set", x.most(), mostWithoutNeighbours());
        Check.due("these are four", Integer.bitCount(mostWithoutNeighbours()), 4);
    }

    private static int mostWithoutNeighbours() {
        for (int many = 8; many > 0; many--) {
            for (int set = 0; set < 256; set++) {
                if (Integer.bitCount(set) == many && (set & set >> 1) == 0) {
                    return set;
                }
            }
        }
        return 0;
    }

    private static void fewestOfEight() {
        UnderBars x = new UnderBars();
        Check.names(x, "a", "b", "c", "d", "e");
        Check.due("nothing shown, nothing barred", x.fewest(), 0);
        for (int k = 0; k < 7; k++) {
            Check.page(x, "day 0 fount 0:office 0 " + (char) ('a' + k % 2));
        }
        x.keep(4);
        Check.due("who is not shown", x.fewest(), 0);
        Check.page(x, "day 0 fount 0:office 0 c,office 0 d");
        Check.due("the eighth of nine", x.fewest(), 128);
        x.keep(8);
        Check.due("the ninth is not looked at", x.fewest(), UnderBars.NONE);
        x.keep(1);
        Check.due("four of them", x.fewest(), 0x55);
        x.keep(3);
        Check.due("all seven: large", x.fewest(), UnderBars.LARGE);
        x.offices(2, 0);
        x.offices(3, 0);
        x.offices(4, 0);
        x.keep(2);
        Check.due("three of them", x.fewest(), 0x2a);
        x.keep(3);
        Check.due("all seven", x.fewest(), 0x7f);
        x.keep(12);
        Check.due("both of the last page are shown, one is not looked at", x.fewest(), UnderBars.NONE);
    }

    /** Ten bars and eight places barred too, on eight pages: as many as there can be at once. */
    private static void fewestWithAllBars() {
        UnderBars x = new UnderBars();
        Check.names(x, "a", "bb", "ccc");
        x.offices(1, 1);
        x.offices(2, 2);
        for (int k = 0; k < 8; k++) {
            Check.page(x, "day 0 fount 0:office 0 a,office 0 [10]" + (k < 2 ? ",office 1 [15]" : ""));
        }
        Check.due("bars", x.count(3), 10);
        Check.due("one reading", x.readings(), 1);
        Check.due("nobody kept", x.fewest(), 0);
        x.keep(1);
        Check.due("all eight barred: told to be a", x.fewest(), UnderBars.NONE);
        x.offices(0, 0);
        Check.due("all eight barred: no reading", x.fewest(), 255);
        Check.names(x, "d");
        Check.due("all eight barred: told to be d, who is not kept", x.fewest(), 255);
        x.keep(9);
        Check.due("who is kept as well", x.fewest(), UnderBars.NONE);
        Check.names(x, "e");
        Check.due("d or e", x.fewest(), UnderBars.LARGE);
        UnderBars y = new UnderBars();
        Check.names(y, "a", "bb", "ccc");
        for (int k = 0; k < 8; k++) {
            Check.page(y, "day 0 fount 0:office 0 [10]" + (k < 2 ? ",office 1 [15]" : k == 7 ? ",office 0 a" : ""));
        }
        y.keep(1);
        Check.due("barred behind ten bars, told to be a", y.fewest(), UnderBars.NONE);
        Check.names(y, "d");
        Check.due("barred behind ten bars, a or d", y.fewest(), 1);
    }

    private static void widerByOne() {
        for (int more = 0; more <= 10; more++) {
            for (int slack = 0; slack <= 9; slack++) {
                UnderBars x = new UnderBars();
                Check.names(x, "a", "b");
                x.wide(0, 1, 5 + more);
                x.slack(slack);
                Check.page(x, "day 0 fount 0:office 0 [5]");
                x.keep(1);
                int want = more > 9 ? UnderBars.NONE : Math.max(more, slack);
                Check.due("b is wider by " + more + ", slack " + slack, x.wider(), want);
                Check.due("slack as it was", x.slack(0), slack);
            }
        }
    }
}
