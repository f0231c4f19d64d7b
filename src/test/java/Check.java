/** What the tests share: answers held against those due, and texts fed whole. */
final class Check {
    private static int wrong = 0;

    private Check() {
    }

    static void due(String call, long got, long want) {
        if (got != want) {
            wrong++;
            System.out.println(call + " answered " + got + ", due is " + want);
        }
    }

    /** Ends the test: exit code 1 if an answer was not the one due. */
    static void end() {
        System.out.println(wrong == 0 ? "all answers are as due" : wrong + " answers are not as due");
        if (wrong != 0) {
            System.exit(1);
        }
    }

    static int wrongSoFar() {
        return wrong;
    }

    static void feed(UnderBars x, String text) {
        for (int i = 0; i < text.length(); i += 8) {
            int n = Math.min(8, text.length() - i);
            long bytes = 0;
            for (int k = 0; k < n; k++) {
                bytes = bytes << 8 | text.charAt(i + k) & 255;
            }
            x.feed(n, bytes);
        }
    }

    static int name(UnderBars x, String letters) {
        feed(x, letters);
        return x.name();
    }

    static void names(UnderBars x, String... all) {
        for (String letters : all) {
            name(x, letters);
        }
    }

    static int page(UnderBars x, String text) {
        feed(x, text);
        return x.page();
    }

    /** A page that has a fault: its kind and its byte. */
    static void faulty(UnderBars x, String text, int kind, int at) {
        due("page of '" + text + "'", page(x, text), -10 - kind);
        due("fault of '" + text + "'", x.fault(), at);
        due("text behind '" + text + "'", x.count(6), 0);
    }
}
