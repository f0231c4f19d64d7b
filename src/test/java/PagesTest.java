/** Promises 12 to 15: pages, their faults, places, twins. */
public final class PagesTest {
    private PagesTest() {
    }

    public static void main(String[] args) {
        forms();
        cannotStand();
        wrongNumbers();
        wrongNames();
        fifthPlace();
        eleventhBar();
        refusedChangesNothing();
        full();
        place();
        twins();
        Check.end();
    }

    private static UnderBars withNames() {
        UnderBars x = new UnderBars();
        Check.names(x, "p", "day", "office", "fount");
        return x;
    }

    private static void forms() {
        UnderBars x = withNames();
        Check.due("no blanks", Check.page(x, "day99fount1:office3p,office0[200],office1[1]"), 0);
        Check.due("many blanks", Check.page(x, "  day  007 fount  01 :  office 002  day , office 0 [ 015 ]  "), 1);
        Check.due("names like words", Check.page(x, "day 0 fount 0:office 0 office,office 0 fount,office 0 day"), 2);
        Check.due("fault", x.fault(), UnderBars.NONE);
        Check.due("text", x.count(6), 0);
        Check.due("places", x.count(2), 8);
        Check.due("bars", x.count(3), 3);
        Check.due("number with noughts", x.place(4, 4), 15);
        Check.due("office with noughts", x.place(3, 1), 2);
        String longest = "day 0 fount 0:office 0 p";
        while (longest.length() < 120) {
            longest = longest + " ";
        }
        Check.due("120 bytes", Check.page(x, longest), 3);
    }

    private static void cannotStand() {
        UnderBars x = withNames();
        Check.faulty(x, "", 1, 0);
        Check.faulty(x, "   ", 1, 3);
        Check.faulty(x, " Day 1", 1, 1);
        Check.faulty(x, "da y 1", 1, 0);
        Check.faulty(x, "days 1", 1, 0);
        Check.faulty(x, "da", 1, 0);
        Check.faulty(x, "may 1", 1, 0);
        Check.faulty(x, "day 5 mount 0", 1, 6);
        Check.faulty(x, "dayfount", 1, 0);
        Check.faulty(x, "day", 1, 3);
        Check.faulty(x, "day ", 1, 4);
        Check.faulty(x, "day -1 fount", 1, 4);
        Check.faulty(x, "day 5", 1, 5);
        Check.faulty(x, "day 5 5", 1, 6);
        Check.faulty(x, "day 5 12345", 1, 6);
        Check.faulty(x, "day 5 found 0", 1, 6);
        Check.faulty(x, "day 5 fount 0 office", 1, 14);
        Check.faulty(x, "day 5 fount 0;", 1, 13);
        Check.faulty(x, "day 5 fount 0:", 1, 14);
        Check.faulty(x, "day 5 fount 0: ,", 1, 15);
        Check.faulty(x, "day 5 fount 0: p", 1, 15);
        Check.faulty(x, "day 5 fount 0:office p", 1, 21);
        Check.faulty(x, "day 5 fount 0:office 0", 1, 22);
        Check.faulty(x, "day 5 fount 0:office 0 5", 1, 23);
        Check.faulty(x, "day 5 fount 0:office 0 P", 1, 23);
        Check.faulty(x, "day 5 fount 0:office 0 p p", 1, 25);
        Check.faulty(x, "day 5 fount 0:office 0 p office", 1, 25);
        Check.faulty(x, "day 5 fount 0:office 0 p5", 1, 24);
        Check.faulty(x, "day 5 fount 0:office 0 p,", 1, 25);
        Check.faulty(x, "day 5 fount 0:office 0 p,,", 1, 25);
        Check.faulty(x, "day 5 fount 0:office 0 p, office 1 p ,", 3, 35);
        Check.faulty(x, "day 5 fount 0:office 0 []", 1, 24);
        Check.faulty(x, "day 5 fount 0:office 0 [p]", 1, 24);
        Check.faulty(x, "day 5 fount 0:office 0 [5", 1, 25);
        Check.faulty(x, "day 5 fount 0:office 0 [5 5]", 1, 26);
        Check.faulty(x, "day 5 fount 0:office 0 [5],", 1, 27);
        Check.faulty(x, "day 5 fount 0:office 0 [5]]", 1, 26);
        Check.faulty(x, "day 5 fount 0:office 0 \u00e9", 1, 23);
        Check.faulty(x, "day 5\tfount", 1, 5);
        Check.faulty(x, "day 5 fount 0:office 0 p\0", 1, 24);
    }

    private static void wrongNumbers() {
        UnderBars x = withNames();
        Check.faulty(x, "day 100 fount 0:", 2, 4);
        Check.faulty(x, "day 0005 fount 0:", 2, 4);
        Check.faulty(x, "day4294967297", 2, 3);
        Check.faulty(x, "day 99999999999999999999 ?", 2, 4);
        Check.faulty(x, "day 5 fount 2:", 2, 12);
        Check.faulty(x, "day 5 fount 0000:", 2, 12);
        Check.faulty(x, "day 5 fount 0:office 4 p", 2, 21);
        Check.faulty(x, "day 5 fount 0:office 0 [0]", 2, 24);
        Check.faulty(x, "day 5 fount 0:office 0 [201]", 2, 24);
        Check.faulty(x, "day 5 fount 0:office 0 [ 0200 ]", 2, 25);
        Check.due("day 99", Check.page(x, "day 099 fount 001:office 003 [200]"), 0);
    }

    private static void wrongNames() {
        UnderBars x = withNames();
        Check.faulty(x, "day 5 fount 0:office 0 pp", 3, 23);
        Check.faulty(x, "day 5 fount 0:office 0 da", 3, 23);
        Check.faulty(x, "day 5 fount 0:office 0 abcdefghijklmnop P", 3, 23);
        Check.faulty(x, "day 5 fount 0:office 0 p,office 1 p", 3, 34);
        Check.faulty(x, "day 5 fount 0:office 0 p,office 1 day,office 2 p", 3, 47);
        Check.due("on another page", Check.page(x, "day 5 fount 0:office 0 p"), 0);
        Check.due("on this page anew", Check.page(x, "day 5 fount 0:office 0 p"), 1);
        Check.faulty(x, "day 5 fount 0:office 0 new", 3, 23);
        Check.names(x, "new");
        Check.due("there is one now", Check.page(x, "day 5 fount 0:office 0 new"), 2);
    }

    private static void fifthPlace() {
        UnderBars x = withNames();
        String four = "day 5 fount 0:office0[1],office0[1],office0[1],office0[1]";
        Check.faulty(x, four + ", office 0 p", 4, 59);
        Check.faulty(x, four + ",office", 4, 58);
        Check.faulty(x, four + ",offices", 1, 58);
        Check.faulty(x, four + ",", 1, 58);
        Check.faulty(x, four + ", 5", 1, 59);
        Check.faulty(x, four + " office", 1, 58);
        Check.due("four", Check.page(x, four), 0);
    }

    private static void eleventhBar() {
        UnderBars x = withNames();
        String four = "day 5 fount 0:office0[1],office0[1],office0[1],office0[1]";
        Check.page(x, four);
        Check.page(x, four);
        Check.faulty(x, "day 5 fount 0:office0[1],office0[1],office0[1]", 5, 43);
        Check.faulty(x, "day 5 fount 0:office0[1],office0[1],office0 [ x", 5, 44);
        Check.due("bars of faulty pages do not count", x.count(3), 8);
        Check.due("nine and ten", Check.page(x, "day 5 fount 0:office0[1],office0[1]"), 2);
        Check.faulty(x, "day 5 fount 0:office0 [999]", 5, 22);
        Check.faulty(x, "day 5 fount 0:office4[1]", 2, 20);
        Check.due("open places still", Check.page(x, "day 5 fount 0:office0 p"), 3);
    }

    private static void refusedChangesNothing() {
        UnderBars x = withNames();
        Check.faulty(x, "day 5 fount 1:office 1 [7], office 2 p, office 3 ?", 1, 49);
        for (int what = 1; what <= 4; what++) {
            Check.due("count(" + what + ")", x.count(what), 0);
        }
        Check.due("good one behind", Check.page(x, "day 5 fount 0:office 0 [8]"), 0);
        Check.due("no fault any more", x.fault(), UnderBars.NONE);
        Check.due("its bar", x.place(0, 3), 0);
        Check.due("its width", x.place(0, 4), 8);
    }

    private static void full() {
        UnderBars x = withNames();
        for (int k = 0; k < 7; k++) {
            Check.due("page", Check.page(x, "day 5 fount 0:office 0 p"), k);
        }
        Check.faulty(x, "day 5?", 1, 5);
        Check.feed(x, "day 5 fount 0:office 0 p");
        Check.due("the eighth", x.page(), 7);
        Check.feed(x, "dax");
        Check.due("full", x.page(), UnderBars.FULL);
        Check.due("text stays", x.count(6), 3);
        Check.due("fault of the eighth", x.fault(), UnderBars.NONE);
        Check.due("pages", x.count(1), 8);
        Check.due("places", x.count(2), 8);
    }

    private static void place() {
        UnderBars x = withNames();
        x.wide(1, 15, 9);
        Check.page(x, "day 5 fount 0:office 3 p,office 2 [17]");
        Check.page(x, "day 6 fount 1:office 1 [18],office 0 p,office 2 day");
        int[][] want = {{0, 3, 0, -1, 5}, {0, 2, -1, 0, 17}, {1, 1, -1, 1, 18}, {1, 0, 0, -1, 9}, {1, 2, 1, -1, 15}};
        for (int p = 0; p < want.length; p++) {
            for (int what = 0; what < 5; what++) {
                Check.due("place(" + p + ", " + what + ")", x.place(p, what), want[p][what]);
            }
        }
        x.wide(0, 15, 11);
        Check.due("width as it is now", x.place(0, 4), 11);
        Check.due("what 5", x.place(0, 5), UnderBars.OUTSIDE);
        Check.due("what -1", x.place(0, -1), UnderBars.OUTSIDE);
        Check.due("unknown ahead", x.place(5, 5), UnderBars.UNKNOWN);
        Check.due("place -1", x.place(-1, 0), UnderBars.UNKNOWN);
    }

    private static void twins() {
        UnderBars x = withNames();
        String two = "day 5 fount 0:office0[5],office0[5]";
        Check.page(x, two);
        Check.due("unknown", x.twins(0, 2), UnderBars.UNKNOWN);
        Check.due("unknown -1", x.twins(-1, 0), UnderBars.UNKNOWN);
        Check.due("one twice", x.twins(1, 1), UnderBars.UNKNOWN);
        Check.page(x, two);
        Check.page(x, two);
        int pairs = 0;
        for (int b = 0; b < 4; b++) {
            for (int c = b + 1; c < 5; c++) {
                pairs++;
                Check.due("pair", x.twins(c, b), pairs);
            }
        }
        Check.due("already, ahead of full", x.twins(0, 1), UnderBars.NOT);
        Check.due("full", x.twins(0, 5), UnderBars.FULL);
        Check.due("unknown ahead of full", x.twins(0, 6), UnderBars.UNKNOWN);
        Check.due("pairs", x.count(4), 10);
    }
}
