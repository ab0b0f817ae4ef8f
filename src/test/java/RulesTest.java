import java.io.IOException;
import java.lang.reflect.Constructor;
import java.lang.reflect.Field;
import java.lang.reflect.Method;
import java.lang.reflect.Modifier;
import java.nio.file.Files;
import java.nio.file.Path;
import java.util.List;
import java.util.Set;
import java.util.TreeSet;

/** The face that the document shows, and those rules of LANGUAGE.md that can be seen from outside or in the text. */
public final class RulesTest {
    private static final String FACE = "int sign(int) boolean end(int) int field() int poly(int) int product(int,int) "
        + "int inverse(int) int power(int,int) int order(int) int conjugate(int,int) int conjugates(int) int least(int) "
        + "int trace(int,int) int norm(int,int) int root(int) int solves(int) int log(int,int) int traced(int,int) "
        + "int factors(int) int orders() int quadratic(int,int,int) int classes() int generators() int subfield(int) "
        + "int normal(int) int normals() int complete(int) int leastNormal() int leastPowers() int types(int) int base(int) "
        + "int makes(int,int,int) int copies(int,int) int scales(int,int) int moves(int,int,int) int adds(int,int,int) "
        + "int at(int,int) int coordinates(int,int) int made(int,int) int change(int,int) int table(int,int,int) "
        + "int complexity(int) int by(int,int) int squares(int) int productIn(int,int,int) int far(int,int,int) "
        + "int steady(int) int bestScale(int) int same(int,int) int dual(int,int) int weakly(int) int traces(int) "
        + "int tower(int,int,int) int fits(int) int maps(int,int,int) int irreducibles(int) int undo() int keeps() "
        + "int back() int written(int) int count(int) long row(int)";
    private static int wrong = 0;

    public static void main(String[] args) throws IOException {
        face();
        insides();
        text();
        System.out.println("RulesTest: " + wrong + " wrong");
        if (wrong != 0) {
            System.exit(1);
        }
    }

    private static void holds(String what, boolean is) {
        if (!is) {
            wrong++;
            System.out.println("does not hold: " + what);
        }
    }

    private static void face() {
        Class<?> all = FieldBases.class;
        holds("the class is public and final", Modifier.isPublic(all.getModifiers()) && Modifier.isFinal(all.getModifiers()));
        Set<String> due = new TreeSet<>(List.of(FACE.replace(") ", ");").split(";")));
        Set<String> names = new TreeSet<>();
        Set<String> got = new TreeSet<>();
        for (Method method : all.getDeclaredMethods()) {
            if (Modifier.isPublic(method.getModifiers())) {
                StringBuilder kinds = new StringBuilder();
                for (Class<?> kind : method.getParameterTypes()) {
                    kinds.append(kinds.length() == 0 ? "" : ",").append(kind.getName());
                }
                got.add(method.getReturnType().getName() + " " + method.getName() + "(" + kinds + ")");
                names.add(method.getName());
            } else {
                holds(method + " is private", Modifier.isPrivate(method.getModifiers()) || method.isSynthetic());
            }
        }
        holds("the methods are those of the document: " + got, got.equals(due));
        for (Constructor<?> made : all.getDeclaredConstructors()) {
            holds("one public constructor", Modifier.isPublic(made.getModifiers()) && made.getParameterCount() == 0);
        }
        for (Field field : all.getDeclaredFields()) {
            boolean none = field.getName().equals("NONE");
            holds(field + " is as open as it should be",
                none ? Modifier.isPublic(field.getModifiers()) : Modifier.isPrivate(field.getModifiers()));
        }
        bearsNoPublicName(all, names);
        for (Class<?> inside : all.getDeclaredClasses()) {
            bearsNoPublicName(inside, names);
        }
    }

    private static void bearsNoPublicName(Class<?> owner, Set<String> names) {
        for (Method method : owner.getDeclaredMethods()) {
            holds(method + " bears no public name",
                Modifier.isPublic(method.getModifiers()) || !names.contains(method.getName()));
        }
    }

    private static void insides() {
        Class<?>[] inside = FieldBases.class.getDeclaredClasses();
        holds("twelve classes at most", inside.length < 12);
        for (Class<?> one : inside) {
            holds(one + " is static", Modifier.isStatic(one.getModifiers()));
            fields(one);
        }
        fields(FieldBases.class);
    }

    private static void fields(Class<?> owner) {
        int many = 0;
        for (Field field : owner.getDeclaredFields()) {
            boolean fixed = Modifier.isStatic(field.getModifiers());
            many += fixed ? 0 : 1;
            holds(field + " is final", !fixed || Modifier.isFinal(field.getModifiers()));
        }
        holds(owner + " has twenty fields at most", many <= 20);
    }

    private static void text() throws IOException {
        List<String> lines = Files.readAllLines(Path.of("src/main/java/FieldBases.java"));
        String whole = String.join("\n", lines);
        String[] banned = {"catch", "finally", "->", "::", "assert ", "synchronized", "Random", "System.nano", "System.current",
            "static {", "instanceof", "String.format", "numberOf", "Exact("};
        for (String word : banned) {
            holds("the text has no " + word, !whole.contains(word));
        }
        int begun = -1;
        for (int k = 0; k < lines.size(); k++) {
            String line = lines.get(k);
            holds("line " + (k + 1) + " imports nothing else",
                !line.startsWith("import ") || line.equals("import java.util.NoSuchElementException;"));
            if (line.matches("( {4}| {8})[a-z].*\\) (throws \\w+ )?\\{")) {
                begun = k;
            }
            if (line.matches("( {4}| {8})\\}") && begun >= 0) {
                holds("the method at line " + (begun + 1) + " is short", k - begun <= 60);
            }
        }
    }
}
