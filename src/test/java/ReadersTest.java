/** Promises 22 to 25: what readers know, alone and together. */
public final class ReadersTest {
    private ReadersTest() {
    }

    public static void main(String[] args) {
        away();
        knows();
        together();
        sees();
        large();
        Check.end();
    }

    private static UnderBars threeNamesTwoBars() {
        UnderBars x = new UnderBars();
        Check.names(x, "a", "b", "c");
        Check.page(x, "day 0 fount 0:office 0 [5],office 0 [5]");
        return x;
    }

    private static void away() {
        UnderBars x = threeNamesTwoBars();
        Check.due("at first", x.away(0, 1), 0);
        Check.due("told again", x.away(0, 6), 1);
        Check.due("earlier ones are dropped", x.sees(1, 0), 0);
        Check.due("a alone is left", x.away(0, 2), 6);
        Check.due("a and c", x.sees(1, 0), 5);
        Check.due("another reader", x.away(3, 0), 0);
        Check.due("no reader 4", x.away(4, 0), UnderBars.UNKNOWN);
        Check.due("no reader -1", x.away(-1, 0), UnderBars.UNKNOWN);
        Check.due("no name 3", x.away(0, 8), UnderBars.UNKNOWN);
        Check.due("no such names", x.away(0, -1), UnderBars.UNKNOWN);
        x.knows(0, 0, 0);
        Check.due("nothing changed", x.away(0, 0), 2);
        Check.due("what is known of bars stays", x.knows(0, 0, 1), 0);
        Check.due("readings to others", x.readings(), 6);
    }

    private static void knows() {
        UnderBars x = threeNamesTwoBars();
        Check.due("at first", x.knows(2, 1, 0), UnderBars.NONE);
        Check.due("a later word", x.knows(2, 1, 2), 0);
        Check.due("sees it", x.sees(4, 1), 4);
        Check.due("and the other", x.sees(4, 0), 3);
        Check.due("no longer", x.knows(2, 1, UnderBars.NONE), 2);
        Check.due("no longer again", x.knows(2, 1, UnderBars.NONE), UnderBars.NONE);
        Check.due("knows nothing", x.sees(4, 1), 7);
        Check.due("no reader 4", x.knows(4, 0, 0), UnderBars.UNKNOWN);
        Check.due("no reader -1", x.knows(-1, 0, 0), UnderBars.UNKNOWN);
        Check.due("no bar 2", x.knows(0, 2, 0), UnderBars.UNKNOWN);
        Check.due("no bar -1", x.knows(0, -1, UnderBars.NONE), UnderBars.UNKNOWN);
        Check.due("no name 3", x.knows(0, 0, 3), UnderBars.UNKNOWN);
        Check.due("no name -2", x.knows(0, 0, -2), UnderBars.UNKNOWN);
    }

    private static void together() {
        UnderBars x = threeNamesTwoBars();
        x.away(0, 1);
        x.knows(1, 0, 1);
        x.knows(2, 0, 2);
        x.knows(3, 1, 0);
        Check.due("nobody", x.together(0), 6);
        Check.due("0", x.together(1), 2);
        Check.due("1", x.together(2), 2);
        Check.due("0 and 1", x.together(3), 1);
        Check.due("1 and 2 know unlike ones", x.together(6), 0);
        Check.due("1 and 3", x.together(10), 1);
        Check.due("0 and 3: a is away and there", x.together(9), 0);
        Check.due("all", x.together(15), 0);
        Check.due("bit 4", x.together(16), UnderBars.UNKNOWN);
        Check.due("all bits", x.together(-1), UnderBars.UNKNOWN);
        x.offices(1, 14);
        Check.due("what can't be is known", x.together(2), 0);
    }

    private static void sees() {
        UnderBars x = threeNamesTwoBars();
        x.away(0, 1);
        x.knows(1, 0, 1);
        Check.due("nobody", x.sees(0, 0), 7);
        Check.due("0", x.sees(1, 1), 6);
        Check.due("1", x.sees(2, 1), 5);
        Check.due("both", x.sees(3, 1), 4);
        Check.due("bits", x.sees(16, 0), UnderBars.UNKNOWN);
        Check.due("bar 2", x.sees(1, 2), UnderBars.UNKNOWN);
        Check.due("bar -1", x.sees(0, -1), UnderBars.UNKNOWN);
        Check.due("may is what nobody sees", x.may(1), 7);
    }

    private static void large() {
        UnderBars x = ReadingsTest.tenByDays();
        for (int k = 0; k < 4; k++) {
            Check.page(x, "day 0 fount 0:office 0 [5]");
        }
        Check.due("large together", x.together(1), UnderBars.LARGE);
        Check.due("large sees", x.sees(1, 0), UnderBars.LARGE);
        Check.due("unknown ahead of large", x.sees(1, 4), UnderBars.UNKNOWN);
        x.away(0, 1);
        Check.due("ten less one: still large", x.together(1), UnderBars.LARGE);
        x.knows(0, 0, 3);
        Check.due("less to try for who knows", x.together(1), 729);
        Check.due("sees", x.sees(1, 0), 8);
    }
}
