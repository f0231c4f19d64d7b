import java.io.IOException;
import java.lang.reflect.Field;
import java.lang.reflect.Method;
import java.lang.reflect.Modifier;
import java.nio.file.Files;
import java.nio.file.Path;
import java.util.Arrays;
import java.util.List;
import java.util.Set;
import java.util.TreeSet;

/** The rules of LANGUAGE.md that can be seen from the source and from the compiled class. */
public final class LanguageTest {
    private static final String[] FACE = {"wide", "feed", "name", "offices", "there", "weight", "never", "slack", "told",
        "count", "page", "fault", "place", "twins", "readings", "reading", "may", "fits", "odds", "on", "away", "knows",
        "together", "sees", "keep", "betrayed", "opened", "most", "fewest", "wider"};
    private static final String[] BARRED = {"\\bthrow\\b", "\\bthrows\\b", "\\btry\\b", "\\bcatch\\b", "\\bassert\\b",
        "\\bsynchronized\\b", "->", "::", "Exact\\(", "\\bMath\\.random", "\\bSystem\\.(?!arraycopy)", "\\bpackage\\b",
        "\\bByte\\.", "\\bCharacter\\.", "\\.hashCode", "\\.toString", "\\bstatic \\{", "[^\\x00-\\x7f]"};

    private LanguageTest() {
    }

    public static void main(String[] args) throws IOException {
        face();
        fields(UnderBars.class);
        inside();
        source();
        Check.end();
    }

    private static void face() {
        Set<String> seen = new TreeSet<>();
        for (Method m : UnderBars.class.getDeclaredMethods()) {
            boolean isFace = Arrays.asList(FACE).contains(m.getName());
            Check.due("visibility of " + m.getName(), Modifier.isPublic(m.getModifiers()) ? 1 : 0, isFace ? 1 : 0);
            Check.due("private or public " + m.getName(), Modifier.isPrivate(m.getModifiers()) ? 1 : 0, isFace ? 0 : 1);
            seen.add(m.getName());
        }
        Check.due("all of the face", seen.containsAll(Arrays.asList(FACE)) ? 1 : 0, 1);
        Check.due("public constructors", UnderBars.class.getConstructors().length, 1);
        Check.due("public constants", UnderBars.class.getFields().length, 6);
        Check.due("final", Modifier.isFinal(UnderBars.class.getModifiers()) ? 1 : 0, 1);
    }

    private static void fields(Class<?> type) {
        int own = 0;
        for (Field f : type.getDeclaredFields()) {
            boolean isStatic = Modifier.isStatic(f.getModifiers());
            own += isStatic ? 0 : 1;
            Check.due("static and final: " + f.getName(), isStatic && !Modifier.isFinal(f.getModifiers()) ? 1 : 0, 0);
        }
        Check.due("fields of " + type.getName() + " at most 20: " + own, own <= 20 ? 1 : 0, 1);
    }

    private static void inside() {
        Class<?>[] all = UnderBars.class.getDeclaredClasses();
        Check.due("at most twelve classes", all.length < 12 ? 1 : 0, 1);
        for (Class<?> type : all) {
            Check.due("static: " + type.getName(), Modifier.isStatic(type.getModifiers()) ? 1 : 0, 1);
            fields(type);
            for (Method m : type.getDeclaredMethods()) {
                boolean isFace = Arrays.asList(FACE).contains(m.getName());
                Check.due("name of the face in " + type.getName() + ": " + m.getName(), isFace ? 1 : 0, 0);
                Check.due("parameters of " + m.getName(), m.getParameterCount() <= 7 ? 1 : 0, 1);
            }
        }
    }

    private static void source() throws IOException {
        List<String> lines = Files.readAllLines(Path.of("src/main/java/UnderBars.java"));
        int start = 0;
        for (int k = 0; k < lines.size(); k++) {
            String line = lines.get(k);
            String code = line.replaceAll("^\\s*(/?\\*|//).*", "").replaceAll("//.*", "");
            for (String barred : BARRED) {
                boolean found = java.util.regex.Pattern.compile(barred).matcher(code).find();
                Check.due("line " + (k + 1) + " has " + barred, found ? 1 : 0, 0);
            }
            // all calls of a run share one room: rows are made with the object, never by a call
            boolean makes = code.matches(".*\\bnew\\b.*") && !code.matches(" +(private )?final \\S+ \\w+ = new .*;");
            Check.due("line " + (k + 1) + " makes an object by a call", makes ? 1 : 0, 0);
            if (line.matches(" {4}(?: {4})?\\S.*\\) \\{")) {
                start = k;
            }
            if (line.matches(" {4}(?: {4})?\\}")) {
                Check.due("method of more than sixty lines at " + (start + 1), k - start < 60 ? 1 : 0, 1);
            }
        }
        Check.due("imports", lines.stream().filter(l -> l.startsWith("import ")).count(), 1);
        Check.due("of Arrays", lines.contains("import java.util.Arrays;") ? 1 : 0, 1);
    }
}
