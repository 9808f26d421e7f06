import java.io.IOException;
import java.lang.reflect.Constructor;
import java.lang.reflect.Field;
import java.lang.reflect.Method;
import java.lang.reflect.Modifier;
import java.nio.file.Files;
import java.nio.file.Path;
import java.util.Set;
import java.util.TreeSet;
import java.util.regex.Matcher;
import java.util.regex.Pattern;

/** The public face of the document and nothing beside it; and those rules of LANGUAGE.md that can be seen in the text. */
public final class FaceTest {
    private static final Set<String> METHODS = Set.of("int type(int, int)", "int face(int, int)", "int member(int, int, int)",
            "int op(int, int, int, int)", "int root(int, boolean)", "int count(int)", "int under(int, int)",
            "int found(int, int)", "int chosen(int, int, int)", "int about(int, int)", "int made(int, int)",
            "int callee(int, int, int)", "int faults(int, int, int)", "int caller(int, int)", "int way(int, int)",
            "int run(long, int)", "boolean holds(long)");
    private static final Set<String> CONSTANTS = Set.of("NONE -1", "MISSING -2", "UNLIKE -3", "BARE -4", "CLASH -5",
            "UNKNOWN -101", "OUTSIDE -102", "STATE -103", "ROOM -104");
    private static final Pattern FORBIDDEN = Pattern.compile("\\b(throw|throws|try|catch|synchronized|assert|protected"
            + "|equals|hashCode|toString|\\w+Exact|Random|Thread)\\b|\\bSystem\\.(?!arraycopy)|\\bstatic\\s*\\{|->|::");
    private static final Pattern LIBRARY = Pattern.compile("\\b(Arrays|Math|System|Long|Integer|String|Character|Boolean)\\.\\w+");
    private static final Set<String> ALLOWED = Set.of("Arrays.fill", "Arrays.copyOf", "Arrays.copyOfRange", "Math.min", "Math.max",
            "Math.abs", "System.arraycopy", "Long.bitCount", "Integer.bitCount");
    private static final Pattern METHOD_BEGINS = Pattern.compile("( {4}| {8})\\w.*\\) \\{");
    private static final int LONGEST_METHOD = 60, MOST_PARAMETERS = 7, MOST_CLASSES = 12, MOST_FIELDS = 20;
    private static final Check check = new Check("FaceTest");

    public static void main(String[] args) throws IOException, IllegalAccessException {
        face();
        insideClasses();
        String path = args.length > 0 ? args[0] : "src/main/java/CallGraphs.java";
        text(Files.readString(Path.of(path)));
        check.end();
    }

    private static void face() throws IllegalAccessException {
        check.due("public and final", Modifier.isPublic(CallGraphs.class.getModifiers())
                && Modifier.isFinal(CallGraphs.class.getModifiers()), true);
        Set<String> names = new TreeSet<>();
        Set<String> methods = new TreeSet<>();
        for (Method m : CallGraphs.class.getDeclaredMethods()) {
            if (Modifier.isPrivate(m.getModifiers()) || m.isSynthetic()) continue;
            methods.add(asText(m));
            names.add(m.getName());
        }
        check.due("methods are " + methods, methods.equals(METHODS), true);
        Set<String> constants = new TreeSet<>();
        for (Field f : CallGraphs.class.getDeclaredFields()) {
            if (Modifier.isPrivate(f.getModifiers())) continue;
            constants.add(f.getName() + " " + f.get(null));
        }
        check.due("constants are " + constants, constants.equals(CONSTANTS), true);
        Constructor<?>[] made = CallGraphs.class.getDeclaredConstructors();
        check.due("one public constructor", made.length == 1 && Modifier.isPublic(made[0].getModifiers())
                && made[0].getParameterCount() == 0, true);
        for (Method m : CallGraphs.class.getDeclaredMethods()) {
            boolean hides = Modifier.isPrivate(m.getModifiers()) && names.contains(m.getName());
            check.due("private method " + m.getName() + " bears a public one's name", hides, false);
        }
    }

    private static String asText(Method m) {
        StringBuilder s = new StringBuilder(m.getReturnType().getName()).append(' ').append(m.getName()).append('(');
        for (Class<?> p : m.getParameterTypes()) s.append(s.charAt(s.length() - 1) == '(' ? "" : ", ").append(p.getName());
        return s.append(')').toString();
    }

    private static void insideClasses() {
        Class<?>[] inside = CallGraphs.class.getDeclaredClasses();
        check.due("some twelve classes at most", inside.length < MOST_CLASSES, true);
        for (Class<?> c : inside) {
            check.due(c.getName() + " is static", Modifier.isStatic(c.getModifiers()), true);
            check.due(c.getName() + " is public", Modifier.isPublic(c.getModifiers()), false);
            int fields = 0;
            for (Field f : c.getDeclaredFields()) {
                if (!Modifier.isStatic(f.getModifiers())) fields++;
                else check.due(c.getName() + "." + f.getName() + " is final", Modifier.isFinal(f.getModifiers()), true);
            }
            check.due(c.getName() + " has some twenty fields at most", fields <= MOST_FIELDS, true);
            for (Method m : c.getDeclaredMethods()) {
                check.due(c.getName() + "." + m.getName() + " takes seven at most", m.getParameterCount() <= MOST_PARAMETERS, true);
            }
        }
    }

    private static void text(String text) {
        for (int i = 0; i < text.length(); i++) {
            if (text.charAt(i) > 126) check.due("character " + (int) text.charAt(i), true, false);
        }
        String bare = text.replaceAll("(?s)/\\*.*?\\*/", "").replaceAll("//[^\n]*", "");
        Matcher word = FORBIDDEN.matcher(bare);
        while (word.find()) check.due("'" + word.group() + "' in the text", true, false);
        Matcher library = LIBRARY.matcher(bare);
        while (library.find()) {
            boolean fits = ALLOWED.contains(library.group());
            check.due("'" + library.group() + "' is of the library that is left", fits, true);
        }
        String[] lines = bare.split("\n");
        for (String line : lines) {
            if (!line.startsWith("import") && !line.startsWith("package")) continue;
            check.due(line, line.equals("import java.util.Arrays;"), true);
        }
        methodsAreShort(lines);
    }

    /** A method ends with the brace that stands as far in as its first line. */
    private static void methodsAreShort(String[] lines) {
        for (int i = 0; i < lines.length; i++) {
            Matcher begins = METHOD_BEGINS.matcher(lines[i]);
            if (!begins.matches()) continue;
            int end = i;
            while (end < lines.length && !lines[end].equals(begins.group(1) + "}")) end++;
            check.due("lines of '" + lines[i].trim() + "' are few", end - i <= LONGEST_METHOD, true);
        }
    }
}
