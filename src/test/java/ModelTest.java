import java.util.ArrayList;
import java.util.List;
import java.util.Random;

/** All promises: runs of calls by chance (always the same ones), each answer held against the model's. */
public final class ModelTest {
    private static final int RUNS = 2000;
    private static final int[] EDGES = {-1, 0, 1, 2, 3, 4, 5, 9, 10, 15, 16, 26, 99, 100, 1023, -2,
        Integer.MAX_VALUE, Integer.MIN_VALUE};

    private final Random chance;
    private final UnderBars x = new UnderBars();
    private final Model model = new Model();
    private final int run;
    private final List<String> names = new ArrayList<>();

    private ModelTest(int run) {
        this.run = run;
        this.chance = new Random(run);
    }

    public static void main(String[] args) {
        int runs = args.length > 0 ? Integer.parseInt(args[0]) : RUNS;
        for (int run = 0; run < runs && Check.wrongSoFar() < 20; run++) {
            new ModelTest(run).go();
        }
        Check.end();
    }

    private void due(String call, long got, long want) {
        Check.due("run " + run + ": " + call, got, want);
    }

    private void go() {
        int many = 1 + chance.nextInt(10);
        for (int k = 0; k < many; k++) {
            name();
        }
        for (int k = 0; k < 50; k++) {
            int kind = chance.nextInt(10);
            if (kind < 2) {
                page();
            } else if (kind < 6) {
                change(chance.nextInt(14));
            } else {
                ask(chance.nextInt(20));
            }
        }
        for (int what = 0; what < 20; what++) {
            change(12);
            ask(what);
        }
    }

    /** Mostly a number that there is, now and then one at an edge. */
    private int number(int size) {
        if (size <= 0 || chance.nextInt(25) == 0) {
            return EDGES[chance.nextInt(EDGES.length)];
        }
        return chance.nextInt(size);
    }

    private void feed(String text) {
        int i = 0;
        while (i < text.length()) {
            int n = Math.min(1 + chance.nextInt(8), text.length() - i);
            long bytes = chance.nextLong();
            for (int k = 0; k < n; k++) {
                bytes = bytes << 8 | text.charAt(i + k) & 255;
            }
            due("feed", x.feed(n, bytes), model.feed(n, bytes));
            i += n;
        }
    }

    private String letters() {
        String s = "";
        int length = chance.nextInt(12) == 0 ? chance.nextInt(15) : 1 + chance.nextInt(2);
        for (int k = 0; k < length; k++) {
            s += (char) ('a' + chance.nextInt(6));
        }
        return chance.nextInt(30) == 0 ? s + "B" : s;
    }

    private void name() {
        String s = letters();
        feed(s);
        int n = x.name();
        due("name '" + s + "'", n, model.name());
        if (n >= 0) {
            names.add(s);
        }
        due("text behind a name", x.count(6), model.count(6));
    }

    private String blank() {
        return chance.nextInt(3) == 0 ? " " : "";
    }

    private String known() {
        return names.isEmpty() || chance.nextInt(30) == 0 ? letters() : names.get(chance.nextInt(names.size()));
    }

    /** Mostly as wide as some name is. */
    private int barWidth(int fount) {
        int width = model.told(chance.nextInt(Math.max(1, names.size())), fount);
        return width > 0 && chance.nextInt(10) > 0 ? width : chance.nextInt(12);
    }

    private String pageText() {
        int fount = chance.nextInt(2);
        String s = blank() + "day" + blank() + chance.nextInt(4) + blank() + "fount" + blank() + fount + blank() + ":";
        int many = chance.nextInt(15) == 0 ? 5 : 1 + chance.nextInt(chance.nextInt(3) > 0 ? 2 : 4);
        for (int k = 0; k < many; k++) {
            String under = chance.nextInt(5) < 3 ? "[" + blank() + barWidth(fount) + blank() + "]" : known();
            s += (k > 0 ? "," : "") + blank() + "office" + blank() + chance.nextInt(4) + blank() + under + blank();
        }
        return s;
    }

    private String spoil(String s) {
        String signs = "day fount:office[],0123456789 aB?\u00ff";
        int at = chance.nextInt(s.length());
        char c = signs.charAt(chance.nextInt(signs.length()));
        switch (chance.nextInt(4)) {
            case 0:
                return s.substring(0, at) + s.substring(at + 1);
            case 1:
                return s.substring(0, at) + c + s.substring(at);
            case 2:
                return s.substring(0, at) + c + s.substring(at + 1);
            default:
                return s.substring(0, at);
        }
    }

    private void page() {
        String s = pageText();
        if (chance.nextInt(3) == 0) {
            s = spoil(s);
        }
        feed(s);
        due("page '" + s + "'", x.page(), model.page());
        due("fault of '" + s + "'", x.fault(), model.fault());
        if (chance.nextBoolean()) {
            // what stays of a text when the pages are full has to go
            due("name", x.name(), model.name());
        }
    }

    private void change(int what) {
        int n = number(model.count(0));
        int m = number(model.count(0));
        int b = number(model.count(3));
        int c = number(model.count(3));
        int r = number(4);
        int set = number(1 << model.count(0)) & (chance.nextBoolean() ? -1 : number(1 << model.count(0)));
        int held = chance.nextBoolean() ? 15 - r : number(16);
        int v = number(10);
        boolean is = chance.nextBoolean();
        int a = number(3);
        int to = chance.nextInt(20) == 0 ? number(5) : a + chance.nextInt(99 - Math.floorMod(a, 99));
        switch (what) {
            case 0 -> due("wide", x.wide(r & 1, n, 4 + v % 3), model.wide(r & 1, n, 4 + v % 3));
            case 1 -> due("wide wild", x.wide(r, n, v), model.wide(r, n, v));
            case 2 -> name();
            case 3 -> due("offices", x.offices(n, held), model.offices(n, held));
            case 4 -> due("there", x.there(n, a, to), model.there(n, a, to));
            case 5 -> due("weight", x.weight(n, v), model.weight(n, v));
            case 6 -> due("never", x.never(n, m, is), model.never(n, m, is));
            case 7 -> due("slack", x.slack(v % 6), model.slack(v % 6));
            case 8 -> due("slack wild", x.slack(v), model.slack(v));
            case 9 -> due("twins", x.twins(b, c), model.twins(b, c));
            case 10 -> due("away", x.away(r, set), model.away(r, set));
            case 11 -> due("knows", x.knows(r, b, n), model.knows(r, b, n));
            case 12 -> due("keep", x.keep(set), model.keep(set));
            default -> due("feed wild", x.feed(v, 0x6161616161616161L), model.feed(v, 0x6161616161616161L));
        }
    }

    private void ask(int what) {
        int n = number(model.count(0));
        int b = number(model.count(3));
        int p = number(model.count(2));
        int r = number(16);
        int set = number(1 << model.count(1));
        int v = number(9);
        int i = chance.nextInt(3) == 0 ? chance.nextInt(2000) : number(20);
        switch (what) {
            case 0 -> due("told " + n + " " + v, x.told(n, v), model.told(n, v));
            case 1 -> due("count " + v, x.count(v), model.count(v));
            case 2 -> due("place " + p + " " + v, x.place(p, v), model.place(p, v));
            case 3 -> due("readings", x.readings(), model.readings());
            case 4 -> due("reading " + i + " " + b, x.reading(i, b), model.reading(i, b));
            case 5 -> due("may " + b, x.may(b), model.may(b));
            case 6 -> due("fits " + b, x.fits(b), model.fits(b));
            case 7 -> due("odds 0", x.odds(b, n, 0), model.odds(b, n, 0));
            case 8 -> due("odds 1", x.odds(b, n, 1), model.odds(b, n, 1));
            case 9 -> due("odds wild", x.odds(b, n, v), model.odds(b, n, v));
            case 10 -> due("on " + n, x.on(n), model.on(n));
            case 11 -> due("together " + r, x.together(r), model.together(r));
            case 12 -> due("sees " + r + " " + b, x.sees(r, b), model.sees(r, b));
            case 13 -> due("betrayed " + r, x.betrayed(r), model.betrayed(r));
            case 14 -> due("betrayed 0", x.betrayed(0), model.betrayed(0));
            case 15 -> due("opened " + set, x.opened(set), model.opened(set));
            case 16 -> due("most", x.most(), model.most());
            case 17 -> due("fewest", x.fewest(), model.fewest());
            case 18 -> due("wider", x.wider(), model.wider());
            default -> due("fault", x.fault(), model.fault());
        }
    }
}
