/** Promises 26 to 31: names kept, pages opened, names more to bar, slack to add. */
public final class KeptTest {
    private KeptTest() {
    }

    public static void main(String[] args) {
        keep();
        betrayed();
        opened();
        openedWithTwins();
        most();
        mostLarge();
        fewest();
        fewestByNumber();
        fewestByPlaces();
        fewestLooksAtEight();
        fewestByThePlaceBarred();
        fewestByNever();
        fewestWithoutReading();
        fewestLarge();
        wider();
        widerLarge();
        Check.end();
    }

    private static void keep() {
        UnderBars x = new UnderBars();
        Check.due("no names", x.keep(1), UnderBars.UNKNOWN);
        Check.names(x, "a", "b", "c");
        Check.due("at first", x.keep(5), 0);
        Check.due("kept", x.count(8), 2);
        Check.due("again", x.keep(7), 5);
        Check.due("other bits", x.keep(8), UnderBars.UNKNOWN);
        Check.due("all bits", x.keep(-1), UnderBars.UNKNOWN);
        Check.due("nothing changed", x.keep(0), 7);
    }

    private static void betrayed() {
        UnderBars x = new UnderBars();
        Check.names(x, "a", "b", "cc", "dd");
        Check.page(x, "day 0 fount 0:office 0 [5],office 0 [10],office 0 dd");
        x.keep(15);
        Check.due("told, not shown", x.betrayed(0), 4);
        x.keep(11);
        Check.due("not kept", x.betrayed(0), 0);
        x.keep(15);
        x.away(1, 1);
        Check.due("who knows more", x.betrayed(2), 6);
        x.knows(2, 0, 0);
        Check.due("who knows it", x.betrayed(4), 5);
        Check.due("who know unlike things", x.betrayed(6), 0);
        Check.due("bits", x.betrayed(16), UnderBars.UNKNOWN);
        Check.due("all bits", x.betrayed(-1), UnderBars.UNKNOWN);
        UnderBars y = fourBars();
        Check.due("large", y.betrayed(0), UnderBars.LARGE);
        y.knows(0, 0, 5);
        y.keep(1023);
        Check.due("not large to who knows", y.betrayed(1), 32);
    }

    /** Four bars for ten names each: too large together, three of them are not. */
    private static UnderBars fourBars() {
        UnderBars x = ReadingsTest.tenByDays();
        for (int k = 0; k < 4; k++) {
            Check.page(x, "day 0 fount 0:office 0 [5]");
        }
        return x;
    }

    private static void opened() {
        UnderBars x = new UnderBars();
        Check.names(x, "a", "b", "cc");
        Check.page(x, "day 0 fount 0:office 0 [5]");
        Check.page(x, "day 0 fount 0:office 0 [10]");
        Check.page(x, "day 0 fount 0:office 0 a");
        Check.page(x, "day 0 fount 0:office 0 [99]");
        Check.due("nobody kept", x.opened(7), 1);
        Check.due("no reading", x.opened(8), 0);
        Check.due("no reading of all", x.opened(15), 0);
        x.keep(4);
        Check.due("c is told", x.opened(2), 0);
        Check.due("the others", x.opened(5), 1);
        x.keep(1);
        Check.due("a is shown", x.opened(4), 0);
        Check.due("not on these", x.opened(3), 1);
        Check.due("none", x.opened(0), 1);
        x.away(0, 1);
        x.knows(0, 0, 0);
        Check.due("to someone who knows nothing", x.opened(1), 1);
        Check.due("bits", x.opened(16), UnderBars.UNKNOWN);
        Check.due("all bits", x.opened(-1), UnderBars.UNKNOWN);
        UnderBars y = fourBars();
        Check.page(y, "day 0 fount 0:office 0 c");
        y.keep(4);
        Check.due("large", y.opened(15), UnderBars.LARGE);
        Check.due("shown is looked at first", y.opened(31), 0);
        Check.due("three of them", y.opened(14), 1);
    }

    private static void openedWithTwins() {
        UnderBars x = new UnderBars();
        Check.names(x, "a", "b");
        Check.page(x, "day 0 fount 0:office 0 [5]");
        Check.page(x, "day 0 fount 0:office 0 [5],office 0 b");
        x.twins(0, 1);
        x.keep(1);
        Check.due("twins on one page of both", x.opened(1), 1);
        Check.due("the other tells", x.opened(2), 0);
        x.keep(2);
        Check.due("not told alone", x.opened(1), 1);
        UnderBars y = new UnderBars();
        Check.names(y, "a", "b", "c");
        y.offices(0, 1);
        y.offices(2, 2);
        Check.page(y, "day 0 fount 0:office 0 [5]");
        Check.page(y, "day 0 fount 0:office 1 [5]");
        y.twins(1, 0);
        y.keep(2);
        Check.due("first alone", y.opened(1), 1);
        Check.due("second alone", y.opened(2), 1);
        Check.due("twins tell", y.opened(3), 0);
        Check.due("the most of like ones", y.most(), 1);
        twinsAreLaidAnew();
    }

    private static void twinsAreLaidAnew() {
        UnderBars x = new UnderBars();
        Check.names(x, "a", "b", "c", "d");
        x.offices(0, 1);
        x.offices(1, 1);
        x.offices(2, 2);
        x.offices(3, 2);
        Check.page(x, "day 0 fount 0:office 0 [5]");
        Check.page(x, "day 0 fount 0:office 0 [5]");
        Check.page(x, "day 0 fount 0:office 1 [5]");
        x.twins(0, 1);
        x.keep(15);
        Check.due("all of them", x.opened(7), 1);
        Check.due("the third in the twin's stead", x.opened(5), 1);
        UnderBars y = new UnderBars();
        Check.names(y, "a", "b", "c", "d");
        y.offices(0, 1);
        y.offices(1, 1);
        y.offices(2, 2);
        y.offices(3, 2);
        Check.page(y, "day 0 fount 0:office 0 [5]");
        Check.page(y, "day 0 fount 0:office 1 [5]");
        Check.page(y, "day 0 fount 0:office 0 [5]");
        y.twins(0, 2);
        y.keep(15);
        Check.due("all of them", y.opened(7), 1);
        Check.due("the second in the first twin's stead", y.opened(6), 1);
    }

    private static void most() {
        UnderBars x = new UnderBars();
        Check.names(x, "a", "b", "cc");
        Check.page(x, "day 0 fount 0:office 0 [10]");
        Check.page(x, "day 0 fount 0:office 0 [5]");
        Check.page(x, "day 0 fount 0:office 0 a");
        Check.due("all", x.most(), 7);
        x.keep(4);
        Check.due("without the first", x.most(), 6);
        x.keep(5);
        Check.due("the second alone", x.most(), 2);
        x.offices(1, 14);
        Check.due("none", x.most(), 0);
        x.slack(5);
        Check.due("by slack a or c may be under both bars", x.most(), 3);
        x.slack(4);
        Check.due("by less than that none", x.most(), 0);
    }

    private static void mostLarge() {
        UnderBars x = fourBars();
        Check.due("all is large", x.most(), UnderBars.LARGE);
        Check.page(x, "day 0 fount 0:office 0 c");
        x.keep(4);
        Check.due("four of five are large", x.most(), UnderBars.LARGE);
        UnderBars y = ReadingsTest.tenByDays();
        Check.page(y, "day 0 fount 0:office 0 c");
        for (int k = 0; k < 3; k++) {
            Check.page(y, "day 0 fount 0:office 0 [5]");
        }
        y.keep(4);
        Check.due("not large, as the first is shown", y.most(), 14);
        // whatever is kept, a set that is large comes ahead of one that would do
        UnderBars z = ReadingsTest.tenByDays();
        Check.page(z, "day 0 fount 0:office 0 [5],office 0 [5]");
        Check.page(z, "day 0 fount 0:office 0 [5],office 0 [5]");
        Check.page(z, "day 0 fount 0:office 0 c,office 0 [5]");
        Check.page(z, "day 0 fount 0:office 0 d");
        z.keep(12);
        Check.due("two pages, large", z.most(), UnderBars.LARGE);
        z.keep(8);
        Check.due("three pages, large", z.most(), UnderBars.LARGE);
        z.keep(0);
        Check.due("four pages, large", z.most(), UnderBars.LARGE);
        lateSetIsNotLookedAt();
    }

    private static void lateSetIsNotLookedAt() {
        // page 3 with 0 and 1 is large, but 0, 1, 2 come first
        UnderBars x = ReadingsTest.tenByDays();
        Check.page(x, "day 0 fount 0:office 0 [5]");
        Check.page(x, "day 0 fount 0:office 0 [5]");
        Check.page(x, "day 9 fount 0:office 0 [5]");
        Check.page(x, "day 0 fount 0:office 0 c,office 0 [5],office 0 [5]");
        x.keep(4);
        Check.due("three of four", x.most(), 7);
        x.keep(0);
        Check.due("all four", x.most(), UnderBars.LARGE);
    }

    private static void fewest() {
        UnderBars x = new UnderBars();
        Check.names(x, "a", "b", "cc");
        Check.page(x, "day 0 fount 0:office 0 [5],office 0 b,office 0 cc");
        Check.due("nobody kept", x.fewest(), 0);
        x.keep(1);
        Check.due("b barred, too", x.fewest(), 1);
        x.keep(4);
        Check.due("c can't be helped", x.fewest(), UnderBars.NONE);
        x.slack(5);
        Check.due("with slack it can", x.fewest(), 2);
        x.slack(0);
        x.keep(2);
        Check.due("b is shown", x.fewest(), 1);
        x.never(0, 1, true);
        Check.due("no reading, nobody betrayed", x.fewest(), 1);
        x.knows(0, 0, 0);
        x.away(0, 7);
        Check.due("to someone who knows nothing", x.fewest(), 1);
    }

    /** One place will do, or two others, whose set is the lesser number. */
    private static void fewestByNumber() {
        UnderBars x = new UnderBars();
        Check.names(x, "a", "b", "c", "d");
        x.offices(0, 9);
        x.offices(1, 3);
        x.offices(2, 14);
        x.offices(3, 12);
        Check.page(x, "day 0 fount 0:office 0 a,office 1 b,office 2 d,office 3 [5]");
        x.keep(4);
        Check.due("told to be c", x.betrayed(0), 4);
        Check.due("the third, so that it may be d", x.fewest(), 4);
        x.offices(3, 4);
        Check.due("d does not hold the bar's office: the first two, so that it may be a", x.fewest(), 3);
    }

    private static void fewestByPlaces() {
        // the place barred too comes ahead of the bar told first
        UnderBars x = new UnderBars();
        Check.names(x, "a", "b", "c");
        x.offices(2, 2);
        Check.page(x, "day 0 fount 0:office 0 a,office 1 c");
        Check.page(x, "day 0 fount 0:office 0 [5],office 1 a,office 0 c");
        x.keep(2);
        Check.due("bar 0 is told to be b", x.betrayed(0), 2);
        Check.due("the third open place", x.fewest(), 4);
        x.keep(6);
        Check.due("c is shown, too: with both barred there is no reading", x.fewest(), 10);
        // twins hold by bars, though places barred too shift them
        UnderBars y = new UnderBars();
        Check.names(y, "a", "b", "c");
        Check.page(y, "day 0 fount 0:office 0 c,office 0 [5]");
        Check.page(y, "day 0 fount 0:office 0 [5],office 0 a");
        y.twins(0, 1);
        y.keep(2);
        Check.due("told by both pages", y.betrayed(0), 2);
        Check.due("least set", y.fewest(), 1);
        y.keep(6);
        Check.due("c shown", y.fewest(), 1);
        y.keep(3);
        Check.due("a shown", y.fewest(), 2);
    }

    private static void fewestLooksAtEight() {
        UnderBars x = new UnderBars();
        Check.names(x, "a", "b", "c", "d", "e");
        Check.page(x, "day 0 fount 0:office 0 a,office 0 b,office 0 c");
        Check.page(x, "day 0 fount 0:office 0 a,office 0 b,office 0 c");
        Check.page(x, "day 0 fount 0:office 0 a,office 0 d");
        x.keep(8);
        Check.due("the eighth", x.fewest(), 128);
        Check.page(x, "day 0 fount 0:office 0 e");
        Check.due("the eighth still", x.fewest(), 128);
        x.keep(16);
        Check.due("the ninth is not looked at", x.fewest(), UnderBars.NONE);
    }

    /** A place barred too has the fount, the day and the office of its own, and the width of the name in it. */
    private static void fewestByThePlaceBarred() {
        UnderBars x = new UnderBars();
        Check.names(x, "a", "bb");
        x.wide(1, 0, 6);
        x.wide(1, 1, 3);
        Check.page(x, "day 7 fount 1:office 2 a");
        x.keep(1);
        Check.due("b is as wide in fount 1", x.fewest(), 1);
        x.wide(1, 1, 4);
        Check.due("and is wider now", x.fewest(), UnderBars.NONE);
        x.slack(2);
        Check.due("by slack", x.fewest(), 1);
        x.slack(1);
        Check.due("by less than that", x.fewest(), UnderBars.NONE);
        x.slack(0);
        x.wide(1, 0, 8);
        Check.due("as wide as the name is now", x.fewest(), 1);
        x.there(1, 8, 99);
        Check.due("not there yet", x.fewest(), UnderBars.NONE);
        x.there(1, 0, 6);
        Check.due("no longer there", x.fewest(), UnderBars.NONE);
        x.there(1, 7, 7);
        Check.due("there that day", x.fewest(), 1);
        x.offices(1, 11);
        Check.due("not in that office", x.fewest(), UnderBars.NONE);
        x.offices(1, 4);
        Check.due("in that one alone", x.fewest(), 1);
    }

    /** What is shown may be against NEVER; what is barred may not. */
    private static void fewestByNever() {
        UnderBars x = new UnderBars();
        Check.names(x, "a", "b", "c");
        x.never(0, 1, true);
        Check.page(x, "day 0 fount 0:office 0 a,office 0 b");
        x.keep(1);
        Check.due("b shown: not a, c is not kept", x.fewest(), 1);
        x.keep(5);
        Check.due("c alone is told; with both barred a or b is beside c", x.fewest(), 3);
        x.keep(2);
        Check.due("likewise b", x.fewest(), 2);
        x.keep(6);
        Check.due("c alone is told there, too", x.fewest(), 3);
        x.never(0, 2, true);
        x.never(1, 2, true);
        Check.due("no reading: nobody is told", x.fewest(), 2);
    }

    private static void fewestWithoutReading() {
        UnderBars x = new UnderBars();
        Check.names(x, "a", "b");
        x.offices(0, 0);
        x.offices(1, 0);
        Check.page(x, "day 0 fount 0:office 0 a,office 0 b");
        x.keep(1);
        Check.due("what is shown is against its office", x.fewest(), 1);
    }

    private static void fewestLarge() {
        UnderBars x = fourBars();
        Check.page(x, "day 0 fount 0:office 0 c");
        Check.due("large with none more", x.fewest(), UnderBars.LARGE);
        UnderBars y = ReadingsTest.tenByDays();
        for (int k = 0; k < 3; k++) {
            Check.page(y, "day 0 fount 0:office 0 [5]");
        }
        Check.page(y, "day 0 fount 0:office 0 c");
        Check.due("not large", y.fewest(), 0);
        y.keep(4);
        Check.due("large with one more", y.fewest(), UnderBars.LARGE);
        UnderBars z = ReadingsTest.tenByDays();
        for (int k = 0; k < 4; k++) {
            Check.page(z, "day 0 fount 0:office 0 [5]");
        }
        Check.page(z, "day 0 fount 0:office 0 a,office 0 b,office 0 c,office 0 d");
        Check.page(z, "day 0 fount 0:office 0 a,office 0 b,office 0 c,office 0 d");
        Check.page(z, "day 0 fount 0:office 0 e");
        z.keep(16);
        Check.due("shown is looked at first, each time", z.fewest(), UnderBars.NONE);
    }

    private static void wider() {
        UnderBars x = new UnderBars();
        Check.names(x, "a", "b", "c");
        x.wide(0, 1, 8);
        x.wide(0, 2, 15);
        Check.page(x, "day 0 fount 0:office 0 [5]");
        Check.page(x, "day 0 fount 0:office 0 a");
        Check.due("nobody kept", x.wider(), 0);
        x.keep(1);
        Check.due("b comes in at 3", x.wider(), 3);
        Check.due("slack is as it was", x.count(7), 0);
        x.slack(4);
        Check.due("slack itself", x.wider(), 4);
        x.slack(0);
        x.offices(1, 0);
        Check.due("c never comes in", x.wider(), UnderBars.NONE);
        x.wide(0, 2, 14);
        Check.due("c comes in at 9", x.wider(), 9);
        x.offices(2, 0);
        x.knows(0, 0, 0);
        Check.due("none", x.wider(), UnderBars.NONE);
        x.there(0, 1, 1);
        Check.due("no reading, nobody betrayed", x.wider(), 0);
        UnderBars y = new UnderBars();
        Check.names(y, "a", "b");
        Check.page(y, "day 0 fount 0:office 0 a,office 0 [5]");
        y.keep(2);
        Check.due("open places stay open", y.wider(), UnderBars.NONE);
    }

    private static void widerLarge() {
        UnderBars x = ReadingsTest.tenByDays();
        for (int letter = 1; letter < 10; letter++) {
            x.wide(0, letter, 8);
        }
        for (int k = 0; k < 4; k++) {
            Check.page(x, "day 0 fount 0:office 0 [5]");
        }
        x.keep(2);
        Check.due("nobody betrayed at 0", x.wider(), 0);
        x.keep(1);
        Check.due("large at 3", x.wider(), UnderBars.LARGE);
        x.slack(3);
        Check.due("large at once", x.wider(), UnderBars.LARGE);
    }
}
