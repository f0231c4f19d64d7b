import java.util.ArrayList;
import java.util.Arrays;
import java.util.List;

/**
 * The document once more, written as plainly as can be and by other means than the class:
 * lists of readings, all of them made by recursion, and a text cut into tokens first.
 */
final class Model {
    static final int NONE = -1, UNKNOWN = -1001, OUTSIDE = -1002, NOT = -1003, FULL = -1004, LARGE = -1005;

    record Name(String letters, int[] facts) {
    }

    record Place(int page, int day, int fount, int office, int shown, int width, int bar) {
        boolean isBar() {
            return shown == NONE;
        }
    }

    record Token(char kind, int at, String text) {
    }

    private static final class TooMany extends RuntimeException {
        private static final long serialVersionUID = 1L;
    }

    private final int[][] letterWidths = new int[2][26];
    private final StringBuilder text = new StringBuilder();
    private final List<Name> names = new ArrayList<>();
    private final List<Place> places = new ArrayList<>();
    private final boolean[][] never = new boolean[10][10];
    private final List<int[]> twins = new ArrayList<>();
    private final int[] away = new int[4];
    private final int[][] known = new int[4][10];
    private int pages = 0;
    private int slack = 0;
    private int kept = 0;
    private int fault = NONE;

    // of the search at hand
    private List<Place> hidden;
    private List<Place> open;
    private int readers;
    private int slackUsed;
    private boolean alone;
    private int tries;
    private final List<int[]> found = new ArrayList<>();

    Model() {
        for (int[] row : letterWidths) {
            Arrays.fill(row, 5);
        }
        for (int[] row : known) {
            Arrays.fill(row, NONE);
        }
    }

    private int bars() {
        return (int) places.stream().filter(Place::isBar).count();
    }

    private boolean noName(int n) {
        return n < 0 || n >= names.size();
    }

    private boolean noBar(int b) {
        return b < 0 || b >= bars();
    }

    private static boolean otherBits(int set, int size) {
        for (int k = size; k < 32; k++) {
            if ((set & 1 << k) != 0) {
                return true;
            }
        }
        return false;
    }

    int wide(int fount, int letter, int v) {
        if (fount < 0 || fount > 1 || letter < 0 || letter > 25 || v < 1 || v > 20) {
            return OUTSIDE;
        }
        int was = letterWidths[fount][letter];
        letterWidths[fount][letter] = v;
        return was;
    }

    int feed(int n, long bytes) {
        if (n < 1 || n > 8) {
            return OUTSIDE;
        }
        if (text.length() + n > 120) {
            return FULL;
        }
        String all = "";
        long rest = bytes;
        for (int k = 0; k < n; k++) {
            all = (char) (rest & 255) + all;
            rest >>= 8;
        }
        text.append(all);
        return text.length();
    }

    int name() {
        String s = text.toString();
        if (!s.matches("[a-z]{1,12}")) {
            text.setLength(0);
            return OUTSIDE;
        }
        if (numberOf(s) != NONE) {
            text.setLength(0);
            return NOT;
        }
        if (names.size() == 10) {
            return FULL;
        }
        text.setLength(0);
        names.add(new Name(s, new int[] {15, 0, 99, 1}));
        return names.size() - 1;
    }

    private int numberOf(String s) {
        for (int n = 0; n < names.size(); n++) {
            if (names.get(n).letters().equals(s)) {
                return n;
            }
        }
        return NONE;
    }

    private int width(int n, int fount) {
        return names.get(n).letters().chars().map(c -> letterWidths[fount][c - 'a']).sum();
    }

    private int change(int n, int fact, int v) {
        int was = names.get(n).facts()[fact];
        names.get(n).facts()[fact] = v;
        return was;
    }

    int offices(int n, int set) {
        return noName(n) ? UNKNOWN : set < 0 || set > 15 ? OUTSIDE : change(n, 0, set);
    }

    int there(int n, int a, int b) {
        if (noName(n)) {
            return UNKNOWN;
        }
        if (a < 0 || a > 99 || b < 0 || b > 99 || b < a) {
            return OUTSIDE;
        }
        int from = change(n, 1, a);
        return change(n, 2, b) - from + 1;
    }

    int weight(int n, int v) {
        return noName(n) ? UNKNOWN : v < 1 || v > 9 ? OUTSIDE : change(n, 3, v);
    }

    int never(int n, int m, boolean is) {
        if (noName(n) || noName(m) || n == m) {
            return UNKNOWN;
        }
        int was = never[n][m] ? 1 : 0;
        never[n][m] = is;
        never[m][n] = is;
        return was;
    }

    int slack(int v) {
        if (v < 0 || v > 9) {
            return OUTSIDE;
        }
        int was = slack;
        slack = v;
        return was;
    }

    int told(int n, int what) {
        if (noName(n)) {
            return UNKNOWN;
        }
        if (what < 0 || what > 6) {
            return OUTSIDE;
        }
        if (what < 2) {
            return width(n, what);
        }
        return what == 6 ? names.get(n).letters().length() : names.get(n).facts()[what - 2];
    }

    int count(int what) {
        if (what < 0 || what > 8) {
            return OUTSIDE;
        }
        int pairs = 0;
        for (int n = 0; n < 10; n++) {
            for (int m = 0; m < n; m++) {
                pairs += never[n][m] ? 1 : 0;
            }
        }
        return new int[] {names.size(), pages, places.size(), bars(), twins.size(), pairs, text.length(), slack,
            Integer.bitCount(kept)}[what];
    }

    private static List<Token> cut(String s) {
        List<Token> tokens = new ArrayList<>();
        int i = 0;
        while (i < s.length()) {
            char c = s.charAt(i);
            int end = i + 1;
            char kind = c;
            if (c >= 'a' && c <= 'z') {
                kind = 'w';
                while (end < s.length() && s.charAt(end) >= 'a' && s.charAt(end) <= 'z') {
                    end++;
                }
            } else if (c >= '0' && c <= '9') {
                kind = 'n';
                while (end < s.length() && s.charAt(end) >= '0' && s.charAt(end) <= '9') {
                    end++;
                }
            } else if ("[]:,".indexOf(c) < 0) {
                kind = '?';
            }
            if (c != ' ') {
                tokens.add(new Token(kind, i, s.substring(i, end)));
            }
            i = end;
        }
        tokens.add(new Token('$', s.length(), ""));
        return tokens;
    }

    int page() {
        if (pages == 8) {
            return FULL;
        }
        List<Token> tokens = cut(text.toString());
        text.setLength(0);
        List<Place> made = new ArrayList<>();
        int kind = faultOf(tokens, made);
        if (kind != 0) {
            return -10 - kind;
        }
        fault = NONE;
        places.addAll(made);
        pages++;
        return pages - 1;
    }

    private int fail(int kind, Token t) {
        fault = t.at();
        return kind;
    }

    private static int numberFault(Token t, int least, int greatest) {
        if (t.kind() != 'n') {
            return 1;
        }
        if (t.text().length() > 3) {
            return 2;
        }
        int v = Integer.parseInt(t.text());
        return v < least || v > greatest ? 2 : 0;
    }

    private int faultOf(List<Token> tokens, List<Place> made) {
        String[] head = {"day", "99", "fount", "1", ":"};
        int i = 0;
        for (String want : head) {
            Token t = tokens.get(i);
            boolean isNumber = want.charAt(0) <= '9';
            int bad = isNumber ? numberFault(t, 0, Integer.parseInt(want)) : t.text().equals(want) ? 0 : 1;
            if (bad != 0) {
                return fail(bad, t);
            }
            i++;
        }
        int day = Integer.parseInt(tokens.get(1).text());
        int fount = Integer.parseInt(tokens.get(3).text());
        int bars = bars();
        while (true) {
            Token word = tokens.get(i);
            if (!word.text().equals("office")) {
                return fail(1, word);
            }
            if (made.size() == 4) {
                return fail(4, word);
            }
            Token office = tokens.get(i + 1);
            int bad = numberFault(office, 0, 3);
            if (bad != 0) {
                return fail(bad, office);
            }
            int o = Integer.parseInt(office.text());
            Token t = tokens.get(i + 2);
            if (t.kind() == 'w') {
                int n = numberOf(t.text());
                if (n == NONE || made.stream().anyMatch(p -> p.shown() == n)) {
                    return fail(3, t);
                }
                made.add(new Place(pages, day, fount, o, n, 0, NONE));
                i += 3;
            } else if (t.kind() == '[') {
                if (bars == 10) {
                    return fail(5, t);
                }
                Token number = tokens.get(i + 3);
                bad = numberFault(number, 1, 200);
                if (bad != 0) {
                    return fail(bad, number);
                }
                if (tokens.get(i + 4).kind() != ']') {
                    return fail(1, tokens.get(i + 4));
                }
                made.add(new Place(pages, day, fount, o, NONE, Integer.parseInt(number.text()), bars));
                bars++;
                i += 5;
            } else {
                return fail(1, t);
            }
            Token behind = tokens.get(i);
            if (behind.kind() == '$') {
                return 0;
            }
            if (behind.kind() != ',') {
                return fail(1, behind);
            }
            i++;
        }
    }

    int fault() {
        return fault;
    }

    private int widthOf(Place p) {
        return p.isBar() ? p.width() : width(p.shown(), p.fount());
    }

    int place(int p, int what) {
        if (p < 0 || p >= places.size()) {
            return UNKNOWN;
        }
        if (what < 0 || what > 4) {
            return OUTSIDE;
        }
        Place at = places.get(p);
        return new int[] {at.page(), at.office(), at.shown(), at.bar(), widthOf(at)}[what];
    }

    private boolean areTwins(int b, int c) {
        return twins.stream().anyMatch(t -> t[0] == b && t[1] == c || t[0] == c && t[1] == b);
    }

    int twins(int b, int c) {
        if (noBar(b) || noBar(c) || b == c) {
            return UNKNOWN;
        }
        if (areTwins(b, c)) {
            return NOT;
        }
        if (twins.size() == 10) {
            return FULL;
        }
        twins.add(new int[] {b, c});
        return twins.size();
    }

    private boolean fitsPlace(int n, Place p, int withSlack) {
        int[] facts = names.get(n).facts();
        return Math.abs(width(n, p.fount()) - widthOf(p)) <= withSlack && (facts[0] & 1 << p.office()) != 0
            && facts[1] <= p.day() && p.day() <= facts[2];
    }

    private boolean mayStand(int n, int s, int[] given) {
        Place p = hidden.get(s);
        if (!fitsPlace(n, p, slackUsed)) {
            return false;
        }
        for (Place q : open) {
            if (q.page() == p.page() && (q.shown() == n || never[q.shown()][n])) {
                return false;
            }
        }
        for (int t = 0; t < s; t++) {
            Place q = hidden.get(t);
            if (q.page() == p.page() && (given[t] == n || never[given[t]][n])) {
                return false;
            }
            if (q.isBar() && p.isBar() && areTwins(q.bar(), p.bar()) && given[t] != n) {
                return false;
            }
        }
        for (int r = 0; r < 4 && !alone; r++) {
            boolean asked = (readers & 1 << r) != 0;
            boolean knowsOther = known[r][p.bar()] != NONE && known[r][p.bar()] != n;
            if (asked && ((away[r] & 1 << n) != 0 || knowsOther)) {
                return false;
            }
        }
        return true;
    }

    private void goOn(int s, int[] given) {
        if (s == hidden.size()) {
            found.add(given.clone());
            return;
        }
        for (int n = 0; n < names.size(); n++) {
            tries++;
            if (tries > 3000) {
                throw new TooMany();
            }
            if (mayStand(n, s, given)) {
                given[s] = n;
                goOn(s + 1, given);
            }
        }
    }

    /** False if there are too many tries; what was found by then stands in found. */
    private boolean search() {
        found.clear();
        tries = 0;
        try {
            goOn(0, new int[hidden.size()]);
        } catch (TooMany e) {
            return false;
        }
        return true;
    }

    private boolean searchAll(int readerSet) {
        hidden = places.stream().filter(Place::isBar).toList();
        open = places.stream().filter(p -> !p.isBar()).toList();
        readers = readerSet;
        slackUsed = slack;
        alone = false;
        return search();
    }

    private int mayOf(int s) {
        return found.stream().mapToInt(g -> 1 << g[s]).reduce(0, (a, b) -> a | b);
    }

    private int betrayedNow() {
        int set = 0;
        for (int s = 0; s < hidden.size(); s++) {
            int may = mayOf(s);
            set |= Integer.bitCount(may) == 1 ? may & kept : 0;
        }
        return set;
    }

    int readings() {
        return searchAll(0) ? found.size() : LARGE;
    }

    int reading(int i, int b) {
        if (noBar(b)) {
            return UNKNOWN;
        }
        if (i < 0) {
            return OUTSIDE;
        }
        boolean whole = searchAll(0);
        return i < found.size() ? found.get(i)[b] : whole ? NONE : LARGE;
    }

    int may(int b) {
        return noBar(b) ? UNKNOWN : searchAll(0) ? mayOf(b) : LARGE;
    }

    int fits(int b) {
        if (noBar(b)) {
            return UNKNOWN;
        }
        Place at = places.stream().filter(p -> p.bar() == b).findFirst().get();
        int set = 0;
        for (int n = 0; n < names.size(); n++) {
            set |= fitsPlace(n, at, slack) ? 1 << n : 0;
        }
        return set;
    }

    long odds(int b, int n, int what) {
        if (noBar(b) || noName(n)) {
            return UNKNOWN;
        }
        if (what < 0 || what > 1) {
            return OUTSIDE;
        }
        if (!searchAll(0)) {
            return LARGE;
        }
        if (found.isEmpty()) {
            return NOT;
        }
        long part = 0;
        long total = 0;
        for (int[] given : found) {
            long product = 1;
            for (int g : given) {
                product *= names.get(g).facts()[3];
            }
            total += product;
            part += given[b] == n ? product : 0;
        }
        long divisor = java.math.BigInteger.valueOf(part).gcd(java.math.BigInteger.valueOf(total)).longValue();
        return (what == 0 ? part : total) / divisor;
    }

    int on(int n) {
        if (noName(n)) {
            return UNKNOWN;
        }
        if (places.stream().anyMatch(p -> p.shown() == n)) {
            return 2;
        }
        if (!searchAll(0)) {
            return LARGE;
        }
        long having = found.stream().filter(given -> Arrays.stream(given).anyMatch(g -> g == n)).count();
        return having == 0 ? 0 : having == found.size() ? 2 : 1;
    }

    int away(int r, int set) {
        if (r < 0 || r > 3 || otherBits(set, names.size())) {
            return UNKNOWN;
        }
        int was = away[r];
        away[r] = set;
        return was;
    }

    int knows(int r, int b, int n) {
        if (r < 0 || r > 3 || noBar(b) || n != NONE && noName(n)) {
            return UNKNOWN;
        }
        int was = known[r][b];
        known[r][b] = n;
        return was;
    }

    int together(int readerSet) {
        return otherBits(readerSet, 4) ? UNKNOWN : searchAll(readerSet) ? found.size() : LARGE;
    }

    int sees(int readerSet, int b) {
        return otherBits(readerSet, 4) || noBar(b) ? UNKNOWN : searchAll(readerSet) ? mayOf(b) : LARGE;
    }

    int keep(int set) {
        if (otherBits(set, names.size())) {
            return UNKNOWN;
        }
        int was = kept;
        kept = set;
        return was;
    }

    int betrayed(int readerSet) {
        return otherBits(readerSet, 4) ? UNKNOWN : searchAll(readerSet) ? betrayedNow() : LARGE;
    }

    /** -1 too large, 0 one kept is shown or betrayed, 1 no reading at all, 2 fine. */
    private int outcome(int withSlack) {
        if (open.stream().anyMatch(p -> (kept & 1 << p.shown()) != 0)) {
            return 0;
        }
        return outcomeOfBars(withSlack);
    }

    private int outcomeOfBars(int withSlack) {
        slackUsed = withSlack;
        alone = true;
        if (!search()) {
            return -1;
        }
        return betrayedNow() != 0 ? 0 : found.isEmpty() ? 1 : 2;
    }

    int opened(int set) {
        if (otherBits(set, pages)) {
            return UNKNOWN;
        }
        List<Place> these = places.stream().filter(p -> (set & 1 << p.page()) != 0).toList();
        hidden = these.stream().filter(Place::isBar).toList();
        open = these.stream().filter(p -> !p.isBar()).toList();
        int outcome = outcome(slack);
        return outcome < 0 ? LARGE : outcome == 2 ? 1 : 0;
    }

    private static List<Integer> setsBySize(int size, boolean fromAll) {
        List<Integer> sets = new ArrayList<>();
        for (int set = 0; set < 1 << size; set++) {
            sets.add(set);
        }
        sets.sort((a, b) -> {
            int more = Integer.compare(Integer.bitCount(a), Integer.bitCount(b));
            return more != 0 ? fromAll ? -more : more : Integer.compare(a, b);
        });
        return sets;
    }

    int most() {
        for (int set : setsBySize(pages, true)) {
            int answer = opened(set);
            if (answer != 0) {
                return answer == LARGE ? LARGE : set;
            }
        }
        return 0;
    }

    int fewest() {
        List<Place> shown = places.stream().filter(p -> !p.isBar()).limit(8).toList();
        for (int set : setsBySize(shown.size(), false)) {
            hidden = new ArrayList<>();
            open = new ArrayList<>();
            for (Place p : places) {
                int k = p.isBar() ? NONE : placeIn(shown, p);
                boolean isHidden = p.isBar() || k != NONE && (set & 1 << k) != 0;
                (isHidden ? hidden : open).add(p);
            }
            int outcome = outcome(slack);
            if (outcome != 0) {
                return outcome < 0 ? LARGE : set;
            }
        }
        return NONE;
    }

    private static int placeIn(List<Place> list, Place p) {
        for (int k = 0; k < list.size(); k++) {
            if (list.get(k) == p) {
                return k;
            }
        }
        return NONE;
    }

    int wider() {
        hidden = places.stream().filter(Place::isBar).toList();
        open = places.stream().filter(p -> !p.isBar()).toList();
        for (int v = slack; v <= 9; v++) {
            int outcome = outcomeOfBars(v);
            if (outcome != 0) {
                return outcome < 0 ? LARGE : v;
            }
        }
        return NONE;
    }
}
