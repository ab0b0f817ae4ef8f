import java.lang.reflect.Method;
import java.lang.reflect.Modifier;
import java.nio.file.Files;
import java.nio.file.Path;
import java.util.List;
import java.util.regex.Matcher;
import java.util.regex.Pattern;

/** The examples of README.md answer as they say, and README.md names every call; from the project's root. */
public final class ReadmeTest {
    private static final Pattern NEW = Pattern.compile("FieldBases x = new FieldBases\\(\\);( +// .*)?");
    private static final Pattern CALL =
            Pattern.compile("x\\.(\\w+)\\(([^)]*)\\); +// (-?\\d+|true|false)(; row (.*))?");
    private static int wrong = 0;
    private static int compared = 0;

    public static void main(String[] args) throws Exception {
        List<String> lines = Files.readAllLines(Path.of("README.md"));
        examples(lines);
        names(String.join("\n", lines));
        due("examples, 20 at least", compared >= 20, true);
        System.out.println("ReadmeTest: " + compared + " answers compared, " + wrong + " wrong");
        System.exit(wrong == 0 ? 0 : 1);
    }

    private static void examples(List<String> lines) throws Exception {
        boolean inside = false;
        FieldBases x = null;
        for (String line : lines) {
            if (line.startsWith("```")) {
                inside = line.equals("```java");
                x = null;
            } else if (inside && NEW.matcher(line).matches()) {
                x = new FieldBases();
            } else if (inside) {
                example(x, line);
            }
        }
    }

    private static void example(FieldBases x, String line) throws Exception {
        Matcher found = CALL.matcher(line);
        if (x == null || !found.matches()) {
            due("an example that can be read: " + line, false, true);
            return;
        }
        String ahead = rowOf(x);
        due(line, called(x, found.group(1), found.group(2)), found.group(3));
        due(line + " (row)", rowOf(x), found.group(5) == null ? ahead : found.group(5));
    }

    private static String called(FieldBases x, String name, String told) throws Exception {
        String[] parts = told.isEmpty() ? new String[0] : told.split(", ");
        Object[] arguments = new Object[parts.length];
        for (int i = 0; i < parts.length; i++) {
            arguments[i] = Integer.decode(parts[i]);
        }
        for (Method method : FieldBases.class.getDeclaredMethods()) {
            if (Modifier.isPublic(method.getModifiers()) && method.getName().equals(name)) {
                return String.valueOf(method.invoke(x, arguments));
            }
        }
        return "no such call";
    }

    private static String rowOf(FieldBases x) {
        StringBuilder row = new StringBuilder();
        for (int i = 0; i < x.count(3); i++) {
            row.append(i > 0 ? ", " : "").append(x.row(i));
        }
        return row.toString();
    }

    private static void names(String page) {
        for (Method method : FieldBases.class.getDeclaredMethods()) {
            if (Modifier.isPublic(method.getModifiers())) {
                due("README.md names " + method.getName(), page.contains("`" + method.getName() + "`"), true);
            }
        }
    }

    private static void due(String what, Object got, Object want) {
        compared++;
        if (!got.equals(want)) {
            wrong++;
            System.out.println(what + ": answered " + got + ", due is " + want);
        }
    }
}
