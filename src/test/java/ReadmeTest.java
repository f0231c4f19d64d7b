import java.io.IOException;
import java.lang.reflect.Method;
import java.nio.file.Files;
import java.nio.file.Path;
import java.util.ArrayList;
import java.util.List;
import java.util.Set;
import java.util.TreeSet;
import java.util.regex.Matcher;
import java.util.regex.Pattern;

/**
 * What README.md shows of the use of the class: the lines of its Java blocks are read from it and called
 * in their order, so that README.md can't come to say something else than the class does.
 */
public final class ReadmeTest {
    private static final Pattern MADE = Pattern.compile("UnderBars x = new UnderBars\\(\\);");
    private static final Pattern FED = Pattern.compile("feed\\(x, \"([^\"]*)\"\\); +// (-?\\w+)(?::.*)?");
    private static final Pattern CALLED = Pattern.compile("x\\.(\\w+)\\(([^)]*)\\); +// (-?\\w+)(?::.*)?");
    private static final Pattern ROW = Pattern.compile("\\| `(\\w+)\\(([^)]*)\\)` \\|.*");
    private static final String HELPER = "static int feed(";

    private final Set<String> shown = new TreeSet<>();
    private UnderBars x = null;
    private int answers = 0;

    private ReadmeTest() {
    }

    public static void main(String[] args) throws IOException {
        List<String> readme = Files.readAllLines(Path.of("README.md"));
        ReadmeTest test = new ReadmeTest();
        int helpers = 0;
        for (List<String> block : blocks(readme)) {
            if (block.stream().anyMatch(line -> line.startsWith(HELPER))) {
                helpers++;
                helperIsTheOneBelow(block);
            } else {
                test.callAll(block);
            }
        }
        Check.due("helpers in README.md", helpers, 1);
        Check.due("answers in README.md, at least 30: " + test.answers, test.answers >= 30 ? 1 : 0, 1);
        Check.due("calls shown: " + test.shown, test.shown.equals(face()) ? 1 : 0, 1);
        table(readme);
        Check.end();
    }

    private static Set<String> face() {
        Set<String> all = new TreeSet<>();
        for (Method m : UnderBars.class.getDeclaredMethods()) {
            if (java.lang.reflect.Modifier.isPublic(m.getModifiers())) {
                all.add(m.getName());
            }
        }
        return all;
    }

    private static List<List<String>> blocks(List<String> lines) {
        List<List<String>> all = new ArrayList<>();
        List<String> block = null;
        for (String line : lines) {
            if (line.equals("```java")) {
                block = new ArrayList<>();
                all.add(block);
            } else if (line.equals("```")) {
                block = null;
            } else if (block != null) {
                block.add(line);
            }
        }
        return all;
    }

    /** The helper that README.md shows is the one that this test feeds with, line by line. */
    private static void helperIsTheOneBelow(List<String> block) throws IOException {
        StringBuilder wanted = new StringBuilder();
        for (String line : block) {
            wanted.append("    ").append(line).append('\n');
        }
        String here = Files.readString(Path.of("src/test/java/ReadmeTest.java"));
        Check.due("the helper of README.md stands in this test", here.contains(wanted) ? 1 : 0, 1);
    }

    static int feed(UnderBars x, String text) {
        int answer = 0;
        for (int i = 0; i < text.length(); i += 8) {
            String piece = text.substring(i, Math.min(i + 8, text.length()));
            long bytes = 0;
            for (char c : piece.toCharArray()) {
                bytes = bytes << 8 | c;
            }
            answer = x.feed(piece.length(), bytes);
        }
        return answer;
    }

    private void callAll(List<String> block) {
        for (String line : block) {
            Matcher fed = FED.matcher(line);
            Matcher called = CALLED.matcher(line);
            if (MADE.matcher(line).matches()) {
                x = new UnderBars();
            } else if (x != null && fed.matches()) {
                due(line, feed(x, fed.group(1)), fed.group(2));
            } else if (x != null && called.matches()) {
                due(line, call(called.group(1), called.group(2)), called.group(3));
                shown.add(called.group(1));
            } else {
                Check.due("a line of README.md that can be called: " + line, line.isEmpty() ? 1 : 0, 1);
            }
        }
    }

    private void due(String line, long got, String want) {
        answers++;
        Check.due("README.md: " + line, got, number(want));
    }

    /** A number, or a constant of the class. */
    private static long number(String s) {
        if (s.matches("-?\\d.*")) {
            return Long.decode(s);
        }
        try {
            return UnderBars.class.getField(s.replace("UnderBars.", "")).getInt(null);
        } catch (ReflectiveOperationException e) {
            throw new IllegalArgumentException("README.md has a number that is none: " + s, e);
        }
    }

    private long call(String name, String arguments) {
        String[] given = arguments.isEmpty() ? new String[0] : arguments.split(", ");
        for (Method m : UnderBars.class.getMethods()) {
            if (m.getName().equals(name) && m.getParameterCount() == given.length) {
                return call(m, given);
            }
        }
        throw new IllegalArgumentException("README.md has a call that there is not: " + name + "(" + arguments + ")");
    }

    private long call(Method m, String[] given) {
        Object[] all = new Object[given.length];
        for (int k = 0; k < given.length; k++) {
            Class<?> type = m.getParameterTypes()[k];
            if (type == boolean.class) {
                all[k] = given[k].equals("true");
            } else if (type == long.class) {
                all[k] = number(given[k]);
            } else {
                all[k] = Math.toIntExact(number(given[k]));
            }
        }
        try {
            return ((Number) m.invoke(x, all)).longValue();
        } catch (ReflectiveOperationException e) {
            throw new IllegalStateException(m.getName() + " of README.md failed", e);
        }
    }

    /** The table has each call of the face once, with as many arguments as it takes. */
    private static void table(List<String> readme) {
        Set<String> rows = new TreeSet<>();
        for (String line : readme) {
            Matcher row = ROW.matcher(line);
            if (row.matches()) {
                Check.due("one row of " + row.group(1), rows.add(row.group(1)) ? 1 : 0, 1);
                int given = row.group(2).isEmpty() ? 0 : row.group(2).split(", ").length;
                Check.due("arguments of " + row.group(1), given, argumentsOf(row.group(1)));
            }
        }
        Check.due("rows of the table: " + rows, rows.equals(face()) ? 1 : 0, 1);
    }

    private static int argumentsOf(String name) {
        for (Method m : UnderBars.class.getMethods()) {
            if (m.getName().equals(name)) {
                return m.getParameterCount();
            }
        }
        return -1;
    }
}
