import java.lang.reflect.InvocationTargetException;
import java.lang.reflect.Method;
import java.util.ArrayDeque;
import java.util.ArrayList;
import java.util.Arrays;
import java.util.Collections;
import java.util.HashSet;
import java.util.List;
import java.util.NoSuchElementException;
import java.util.Set;
import java.util.TreeMap;
import java.util.TreeSet;

/** Long runs of calls, each compared with a slow model that follows the document's words by trying all there is. */
public final class ModelTest {
    private static int wrong = 0;
    private static int compared = 0;
    private static long state = 20261119L;

    public static void main(String[] args) throws Exception {
        everyField();
        for (int run = 0; run < 400; run++) {
            mixedRun(run);
        }
        System.out.println("ModelTest: " + compared + " answers compared, " + wrong + " wrong");
        if (wrong != 0) {
            System.exit(1);
        }
    }

    /** A row of fixed numbers: the same calls each time. */
    private static int next(int below) {
        state = state * 6364136223846793005L + 1442695040888963407L;
        return (int) ((state >>> 33) % below);
    }

    private static void everyField() throws Exception {
        List<Method> methods = faceWithout(Set.of("undo", "keeps", "back", "sign", "end", "field", "poly", "row"));
        for (int poly = 0; poly < 520; poly++) {
            Model model = new Model();
            FieldBases real = new FieldBases();
            String run = "field " + poly;
            same(run, real, model, "poly", poly);
            if (model.poly != poly) {
                continue;
            }
            for (int s = 0; s < 4; s++) {
                same(run, real, model, s == 0 ? "scales" : "makes", s == 0 ? new int[] {s, 1 + next(model.size() - 1)}
                        : new int[] {s, next(model.size()), s & 1});
            }
            for (Method method : methods) {
                for (int k = 0; k < (method.getParameterCount() == 0 ? 1 : 4); k++) {
                    same(run, real, model, method.getName(), drawn(method, model));
                }
            }
        }
    }

    private static List<Method> faceWithout(Set<String> names) {
        List<Method> all = new ArrayList<>();
        for (Method method : FieldBases.class.getDeclaredMethods()) {
            boolean open = java.lang.reflect.Modifier.isPublic(method.getModifiers());
            if (open && !names.contains(method.getName())) {
                all.add(method);
            }
        }
        all.sort((a, b) -> a.getName().compareTo(b.getName()));
        return all;
    }

    private static void mixedRun(int run) throws Exception {
        Model model = new Model();
        FieldBases real = new FieldBases();
        List<Method> methods = faceWithout(Set.of());
        String name = "run " + run;
        for (int step = 0; step < 120; step++) {
            int kind = next(12);
            if (kind == 0) {
                tells(name, real, model, fieldText(model));
                same(name, real, model, "field");
            } else if (kind == 1) {
                tells(name, real, model, baseText(model));
                same(name, real, model, "base", next(5));
            } else if (kind == 2) {
                same(name, real, model, "poly", next(4) == 0 ? next(600) - 20 : model.someIrreducible(next(1000)));
            } else if (kind == 3) {
                same(name, real, model, next(3) == 0 ? "back" : next(4) == 0 ? "keeps" : "undo");
            } else {
                Method method = methods.get(next(methods.size()));
                same(name, real, model, method.getName(), drawn(method, model));
            }
        }
    }

    private static void tells(String run, FieldBases real, Model model, String text) throws Exception {
        for (int i = 0; i < text.length(); i += 4) {
            int v = 0;
            for (int k = 0; k < 4; k++) {
                v = v << 8 | (i + k < text.length() ? text.charAt(i + k) : 0);
            }
            same(run, real, model, "sign", v);
        }
        if (next(20) != 0) {
            same(run, real, model, "end", text.length());
        }
    }

    private static String fieldText(Model model) {
        String text = Model.writtenOf(next(3) == 0 ? 4 + next(508) : model.someIrreducible(next(1000)));
        return next(2) == 0 ? text : spoilt(text, "x+123456789x+x+ ,");
    }

    private static String baseText(Model model) {
        StringBuilder text = new StringBuilder();
        int[] from = model.slots[next(4)].clone();
        for (int k = next(6); k > 0; k--) {
            int i = next(from.length);
            int j = next(from.length);
            from[i] ^= i == j ? 0 : from[j];
        }
        for (int i = 0; i < from.length; i++) {
            text.append(i == 0 ? "" : ",").append(next(12) == 0 ? next(1100) : from[i]);
        }
        return next(2) == 0 ? text.toString() : spoilt(text.toString(), "0123456789,,, x");
    }

    private static String spoilt(String text, String signs) {
        StringBuilder spoilt = new StringBuilder(text);
        for (int k = next(2); k >= 0; k--) {
            int p = next(spoilt.length() + 1);
            char sign = next(15) == 0 ? (char) next(256) : signs.charAt(next(signs.length()));
            int way = next(4);
            if (way == 0) {
                spoilt.setLength(p);
            } else if (way == 1 && p < spoilt.length()) {
                spoilt.deleteCharAt(p);
            } else if (way == 2 && p < spoilt.length()) {
                spoilt.setCharAt(p, sign);
            } else {
                spoilt.insert(p, sign);
            }
        }
        return spoilt.toString();
    }

    private static int[] drawn(Method method, Model model) {
        int[] drawn = new int[method.getParameterCount()];
        String name = method.getName();
        for (int i = 0; i < drawn.length; i++) {
            drawn[i] = drawnOne(name, i, model);
        }
        if (name.equals("maps") && next(5) != 0) {
            drawn[0] = model.someFitting(next(1000));
            List<Integer> roots = model.rootsOf(drawn[0]);
            drawn[1] = roots.isEmpty() ? 0 : roots.get(next(roots.size()));
        }
        return drawn;
    }

    private static int drawnOne(String name, int i, Model model) {
        if (next(25) == 0) {
            int[] edges = {-1, -2, 0, 1, 3, 4, 5, 7, 8, 9, 100, 101, 255, 256, 511, 512, 1023, 1024, model.m,
                model.size(), model.size() - 1, Integer.MAX_VALUE, Integer.MIN_VALUE, 1000000000, 1000000001};
            return edges[next(edges.length)];
        }
        boolean slotFirst = Set.of("base", "makes", "copies", "scales", "moves", "adds", "at", "coordinates", "made",
            "change", "table", "complexity", "by", "squares", "productIn", "far", "steady", "bestScale", "same", "dual",
            "weakly", "traces", "tower").contains(name);
        if (slotFirst && i == 0 || Set.of("copies", "change", "same", "dual").contains(name)) {
            return next(4);
        }
        if (Set.of("moves", "adds", "table", "at").contains(name)) {
            return next(model.m);
        }
        switch (name + i) {
            case "poly0": return model.someIrreducible(next(1000));
            case "power1": return next(2) == 0 ? next(300) : next(1000000001);
            case "conjugate1": return next(101);
            case "trace1": case "norm1": case "traced0": case "subfield0": case "tower1": return 1 + next(model.m);
            case "factors0": return 2 + next(1022);
            case "types0": return 2 + next(99);
            case "makes2": return next(2);
            case "fits0": return next(2) == 0 ? model.someFitting(next(1000)) : next(512);
            case "maps0": return next(512);
            case "irreducibles0": return 1 + next(8);
            case "count0": return next(7);
            case "written0": return next(28) - 1;
            case "row0": return next(10);
            case "end0": return next(20);
            default: return next(model.size());
        }
    }

    private static void same(String run, FieldBases real, Model model, String name, int... args) throws Exception {
        Class<?>[] kinds = new Class<?>[args.length];
        Object[] boxed = new Object[args.length];
        for (int i = 0; i < args.length; i++) {
            kinds[i] = int.class;
            boxed[i] = args[i];
        }
        String got = called(FieldBases.class.getMethod(name, kinds), real, boxed);
        String due = called(Model.class.getMethod(name, kinds), model, boxed);
        String gotState = stateOf(real);
        String dueState = model.told();
        compared++;
        if (!got.equals(due) || !gotState.equals(dueState)) {
            wrong++;
            if (wrong < 40) {
                System.out.println(run + ": " + name + Arrays.toString(args) + " answered " + got + ", due is " + due
                    + "; then " + gotState + ", due is " + dueState);
            }
        }
    }

    private static String called(Method method, Object on, Object[] args) throws Exception {
        try {
            return String.valueOf(method.invoke(on, args));
        } catch (InvocationTargetException e) {
            return "throws " + e.getCause().getClass().getName();
        }
    }

    private static String stateOf(FieldBases real) {
        StringBuilder text = new StringBuilder("row");
        for (int i = 0; i < real.count(3); i++) {
            text.append(' ').append(real.row(i));
        }
        text.append(" slots");
        for (int s = 0; s < 4; s++) {
            for (int i = 0; i < real.count(0); i++) {
                text.append(i == 0 ? ' ' : ',').append(real.at(s, i));
            }
        }
        return text.append(" poly ").append(real.count(1)).append(" deeds ").append(real.count(2)).append(" text ")
            .append(real.count(4)).toString();
    }

    /** The document's words, tried out in the slowest way. */
    public static final class Model {
        int poly = 7;
        int m = 2;
        int[][] slots = plain(2);
        String text = "";
        List<Long> row = new ArrayList<>();
        final ArrayDeque<Object[]> past = new ArrayDeque<>();
        Object[] kept;

        static int[][] plain(int m) {
            int[][] made = new int[4][m];
            for (int[] slot : made) {
                for (int i = 0; i < m; i++) {
                    slot[i] = 1 << i;
                }
            }
            return made;
        }

        int size() {
            return 1 << m;
        }

        String told() {
            StringBuilder told = new StringBuilder("row");
            for (long number : row) {
                told.append(' ').append(number);
            }
            told.append(" slots");
            for (int[] slot : slots) {
                for (int i = 0; i < m; i++) {
                    told.append(i == 0 ? ' ' : ',').append(slot[i]);
                }
            }
            return told.append(" poly ").append(poly).append(" deeds ").append(past.size()).append(" text ")
                .append(text.length()).toString();
        }

        private void tell(long... numbers) {
            row = new ArrayList<>();
            for (long number : numbers) {
                row.add(number);
            }
        }

        private void tellAll(List<Integer> numbers) {
            row = new ArrayList<>();
            for (int number : numbers) {
                row.add((long) number);
            }
        }

        private void tellAll(int[] numbers) {
            row = new ArrayList<>();
            for (int number : numbers) {
                row.add((long) number);
            }
        }

        private Object[] now() {
            int[][] copy = new int[4][];
            for (int s = 0; s < 4; s++) {
                copy[s] = slots[s].clone();
            }
            return new Object[] {poly, m, copy};
        }

        private void become(Object[] then) {
            poly = (Integer) then[0];
            m = (Integer) then[1];
            int[][] copy = (int[][]) then[2];
            slots = new int[4][];
            for (int s = 0; s < 4; s++) {
                slots[s] = copy[s].clone();
            }
        }

        private void deed() {
            past.addLast(now());
            if (past.size() > 8) {
                past.removeFirst();
            }
        }

        // polynomials

        static int degree(int p) {
            int degree = -1;
            for (int k = 0; k < 31; k++) {
                degree = p > 0 && (p >> k & 1) == 1 ? k : degree;
            }
            return degree;
        }

        static int mul(int p, int q) {
            int sum = 0;
            for (int k = 0; k < 16; k++) {
                sum ^= (q >> k & 1) * (p << k);
            }
            return sum;
        }

        private static final boolean[] SPLIT = split();

        private static boolean[] split() {
            boolean[] split = new boolean[1 << 18];
            for (int p = 2; p < 512; p++) {
                for (int q = 2; q < 512; q++) {
                    split[mul(p, q)] = true;
                }
            }
            return split;
        }

        static boolean irreducible(int p) {
            return p >= 2 && p < 1024 && !SPLIT[p];
        }

        int someIrreducible(int from) {
            for (int k = 0; k < 512; k++) {
                int p = (from + k) % 512;
                if (p >= 4 && irreducible(p)) {
                    return p;
                }
            }
            return 7;
        }

        int someFitting(int from) {
            for (int k = 0; k < 512; k++) {
                int p = (from + k * 7) % 512;
                if (irreducible(p) && m % degree(p) == 0) {
                    return p;
                }
            }
            return 2;
        }

        private static final int[][] PRODUCTS = new int[512][];

        private int[] products() {
            if (PRODUCTS[poly] == null) {
                PRODUCTS[poly] = new int[size() * size()];
                for (int k = 0; k < size() * size(); k++) {
                    int sum = mul(k >> m, k & (size() - 1));
                    while (degree(sum) >= m) {
                        sum ^= poly << (degree(sum) - m);
                    }
                    PRODUCTS[poly][k] = sum;
                }
            }
            return PRODUCTS[poly];
        }

        int times(int a, int b) {
            return products()[a << m | b];
        }

        int conj(int a, int k) {
            for (int i = 0; i < k; i++) {
                a = times(a, a);
            }
            return a;
        }

        boolean el(int a) {
            return 0 <= a && a < size();
        }

        boolean sl(int s) {
            return 0 <= s && s < 4;
        }

        boolean pl(int i) {
            return 0 <= i && i < m;
        }

        boolean div(int d) {
            return d > 0 && m % d == 0;
        }

        int tr(int a, int d) {
            int sum = 0;
            for (int k = 0; k < m; k += d) {
                sum ^= conj(a, k);
            }
            return sum;
        }

        static int sum(List<Integer> some, int bits) {
            int sum = 0;
            for (int i = 0; i < some.size(); i++) {
                sum ^= (bits >> i & 1) * some.get(i);
            }
            return sum;
        }

        static boolean independent(List<Integer> some) {
            for (int bits = 1; bits < 1 << some.size(); bits++) {
                if (sum(some, bits) == 0) {
                    return false;
                }
            }
            return true;
        }

        static boolean independent(int[] some) {
            return independent(list(some));
        }

        static List<Integer> list(int[] some) {
            List<Integer> list = new ArrayList<>();
            for (int one : some) {
                list.add(one);
            }
            return list;
        }

        int[] byCoordinates(int[] base) {
            int[] coordinatesOf = new int[size()];
            List<Integer> list = list(base);
            for (int bits = 0; bits < size(); bits++) {
                coordinatesOf[sum(list, bits)] = bits;
            }
            return coordinatesOf;
        }

        int complexityOf(int[] base) {
            int[] c = byCoordinates(base);
            int bits = 0;
            for (int j = 0; j < m; j++) {
                bits += Integer.bitCount(c[times(base[0], base[j])]);
            }
            return bits;
        }

        int weightOf(int[] base) {
            int[] c = byCoordinates(base);
            int bits = 0;
            for (int i = 0; i < m; i++) {
                for (int j = i; j < m; j++) {
                    bits += Integer.bitCount(c[times(base[i], base[j])]);
                }
            }
            return bits;
        }

        int[] conjs(int a) {
            int[] all = new int[m];
            for (int i = 0; i < m; i++) {
                all[i] = conj(a, i);
            }
            return all;
        }

        int[] pows(int a) {
            int[] all = new int[m];
            all[0] = 1;
            for (int i = 1; i < m; i++) {
                all[i] = times(all[i - 1], a);
            }
            return all;
        }

        int[] subbase(int d) {
            List<Integer> some = new ArrayList<>();
            for (int a = 1; a < size() && some.size() < d; a++) {
                some.add(a);
                if (conj(a, d) != a || !independent(some)) {
                    some.remove(some.size() - 1);
                }
            }
            int[] found = new int[d];
            for (int i = 0; i < d; i++) {
                found[i] = some.get(i);
            }
            return found;
        }

        int ord(int a) {
            int p = a;
            int k = 1;
            while (p != 1) {
                p = times(p, a);
                k++;
            }
            return k;
        }

        int sizeOf(int a) {
            int k = 1;
            while (conj(a, k) != a) {
                k++;
            }
            return k;
        }

        int normalElement(int[] base) {
            for (int a = 0; a < size(); a++) {
                if (base[0] == a && Arrays.equals(conjs(a), base)) {
                    return a;
                }
            }
            return -1;
        }

        private int tellField(int n) {
            deed();
            poly = n;
            m = degree(n);
            slots = plain(m);
            return m;
        }

        private int set(int s, int[] base) {
            if (!independent(base)) {
                return -2;
            }
            deed();
            slots[s] = base;
            return complexityOf(base);
        }

        // the face

        public int sign(int v) {
            if (text.length() > 96) {
                return -1;
            }
            text += "" + (char) (v >>> 24) + (char) (v >>> 16 & 255) + (char) (v >>> 8 & 255) + (char) (v & 255);
            return text.length();
        }

        public boolean end(int n) {
            if (n < 0 || n > text.length()) {
                return false;
            }
            text = text.substring(0, n);
            return true;
        }

        static String writtenOf(int n) {
            List<String> parts = new ArrayList<>();
            for (int k = 8; k >= 0; k--) {
                if ((n >> k & 1) == 1) {
                    parts.add(k == 0 ? "1" : k == 1 ? "x" : "x" + k);
                }
            }
            return String.join("+", parts);
        }

        private static final List<String> WRITTEN = allWritten();

        private static List<String> allWritten() {
            List<String> all = new ArrayList<>();
            for (int n = 4; n < 512; n++) {
                all.add(writtenOf(n));
            }
            return all;
        }

        public int field() {
            String read = text;
            text = "";
            int far = 0;
            for (int n = 4; n < 512; n++) {
                String right = WRITTEN.get(n - 4);
                if (right.equals(read)) {
                    return irreducible(n) ? tellField(n) : -2;
                }
                int k = 0;
                while (k < right.length() && k < read.length() && right.charAt(k) == read.charAt(k)) {
                    k++;
                }
                far = Math.max(far, k);
            }
            return -21 - far;
        }

        public int poly(int n) {
            int degree = degree(n);
            return degree < 2 || degree > 8 ? -1 : !irreducible(n) ? -2 : tellField(n);
        }

        public int product(int a, int b) {
            return el(a) && el(b) ? times(a, b) : -1;
        }

        public int inverse(int a) {
            for (int b = 0; b < size() && el(a); b++) {
                if (times(a, b) == 1) {
                    return b;
                }
            }
            return el(a) ? -2 : -1;
        }

        public int power(int a, int n) {
            if (!el(a) || n < 0 || n > 1000000000) {
                return -1;
            }
            if (n == 0 || a == 0) {
                return n == 0 ? 1 : 0;
            }
            int found = 1;
            for (int k = n % (size() - 1); k > 0; k--) {
                found = times(found, a);
            }
            return found;
        }

        public int order(int a) {
            if (!el(a) || a == 0) {
                return a == 0 ? -2 : -1;
            }
            tell(ord(a) == size() - 1 ? 1 : 0);
            return ord(a);
        }

        public int conjugate(int a, int k) {
            return el(a) && k >= 0 && k <= 100 ? conj(a, k) : -1;
        }

        public int conjugates(int a) {
            if (!el(a)) {
                return -1;
            }
            tellAll(Arrays.copyOf(conjs(a), sizeOf(a)));
            return sizeOf(a);
        }

        int value(int p, int a) {
            int sum = 0;
            int power = 1;
            for (int k = 0; k < 9; k++) {
                sum ^= (p >> k & 1) * power;
                power = times(power, a);
            }
            return sum;
        }

        public int least(int a) {
            for (int p = 2; el(a); p++) {
                if (value(p, a) == 0) {
                    tell(degree(p), p >> (degree(p) - 1) & 1);
                    return p;
                }
            }
            return -1;
        }

        public int trace(int a, int d) {
            return el(a) && div(d) ? tr(a, d) : -1;
        }

        public int norm(int a, int d) {
            if (!el(a) || !div(d)) {
                return -1;
            }
            int found = 1;
            for (int k = 0; k < m; k += d) {
                found = times(found, conj(a, k));
            }
            return found;
        }

        public int root(int a) {
            for (int b = 0; b < size(); b++) {
                if (times(b, b) == a) {
                    return b;
                }
            }
            return -1;
        }

        public int solves(int a) {
            if (!el(a)) {
                return -1;
            }
            List<Integer> found = new ArrayList<>();
            for (int x = 0; x < size(); x++) {
                if ((times(x, x) ^ x) == a) {
                    found.add(x);
                }
            }
            if (found.isEmpty()) {
                return -2;
            }
            tell(found.get(1));
            return found.get(0);
        }

        public int log(int a, int b) {
            int p = 1;
            for (int n = 0; n < 1000 && el(a) && el(b); n++) {
                if (p == b) {
                    return n;
                }
                p = times(p, a);
            }
            return el(a) && el(b) ? -2 : -1;
        }

        public int traced(int d, int v) {
            if (!div(d) || !el(v)) {
                return -1;
            }
            List<Integer> found = new ArrayList<>();
            for (int a = 0; a < size(); a++) {
                if (tr(a, d) == v) {
                    found.add(a);
                }
            }
            tell(found.isEmpty() ? -1 : found.get(0));
            return found.size();
        }

        public int factors(int p) {
            if (p < 2 || p > 1023) {
                return -1;
            }
            List<Integer> found = new ArrayList<>();
            split(p, found);
            Collections.sort(found);
            tellAll(found);
            return found.get(0);
        }

        private static void split(int p, List<Integer> into) {
            for (int q = 2; q < p; q++) {
                for (int r = 2; r < p && degree(q) + degree(r) <= degree(p); r++) {
                    if (mul(q, r) == p) {
                        split(q, into);
                        split(r, into);
                        return;
                    }
                }
            }
            into.add(p);
        }

        public int orders() {
            TreeMap<Integer, Integer> found = new TreeMap<>();
            for (int a = 1; a < size(); a++) {
                found.merge(ord(a), 1, Integer::sum);
            }
            List<Integer> all = new ArrayList<>();
            found.forEach((k, v) -> {
                all.add(k);
                all.add(v);
            });
            tellAll(all);
            return found.size();
        }

        public int quadratic(int a, int b, int c) {
            if (!el(a) || !el(b) || !el(c)) {
                return -1;
            }
            List<Integer> found = new ArrayList<>();
            for (int x = 0; x < size(); x++) {
                if ((times(a, times(x, x)) ^ times(b, x) ^ c) == 0) {
                    found.add(x);
                }
            }
            tellAll(found.subList(0, Math.min(8, found.size())));
            return found.size();
        }

        public int classes() {
            Set<Set<Integer>> all = new HashSet<>();
            int[] having = new int[m];
            for (int a = 0; a < size(); a++) {
                all.add(new TreeSet<>(list(conjs(a))));
                having[sizeOf(a) - 1]++;
            }
            tellAll(having);
            return all.size();
        }

        public int generators() {
            List<Integer> found = new ArrayList<>();
            for (int a = 1; a < size(); a++) {
                if (ord(a) == size() - 1) {
                    found.add(a);
                }
            }
            tell(found.get(0));
            return found.size();
        }

        public int subfield(int d) {
            if (!div(d)) {
                return -1;
            }
            int many = 0;
            for (int a = 0; a < size(); a++) {
                many += conj(a, d) == a ? 1 : 0;
            }
            tellAll(subbase(d));
            return many;
        }

        public int normal(int a) {
            if (!el(a)) {
                return -1;
            }
            int best = 0;
            int[] all = conjs(a);
            for (int bits = 0; bits < size(); bits++) {
                List<Integer> some = new ArrayList<>();
                for (int i = 0; i < m; i++) {
                    if ((bits >> i & 1) == 1) {
                        some.add(all[i]);
                    }
                }
                if (some.size() > best && independent(some)) {
                    best = some.size();
                }
            }
            tell(best);
            return independent(all) ? 1 : 0;
        }

        public int normals() {
            int many = 0;
            int first = -1;
            int firstGenerator = -1;
            for (int a = size() - 1; a > 0; a--) {
                if (independent(conjs(a))) {
                    many++;
                    first = a;
                    firstGenerator = ord(a) == size() - 1 ? a : firstGenerator;
                }
            }
            tell(first, firstGenerator);
            return many;
        }

        public int complete(int a) {
            if (!el(a)) {
                return -1;
            }
            int bits = 0;
            for (int d = 1; d < m; d++) {
                if (m % d == 0) {
                    List<Integer> all = new ArrayList<>();
                    for (int b : subbase(d)) {
                        for (int k = 0; k < m; k += d) {
                            all.add(times(b, conj(a, k)));
                        }
                    }
                    bits += independent(all) ? 1 << d : 0;
                }
            }
            return bits;
        }

        public int leastNormal() {
            TreeMap<Integer, List<Integer>> found = new TreeMap<>();
            for (int a = 0; a < size(); a++) {
                if (independent(conjs(a))) {
                    found.computeIfAbsent(complexityOf(conjs(a)), k -> new ArrayList<>()).add(a);
                }
            }
            tell(found.firstEntry().getValue().get(0), found.firstEntry().getValue().size());
            return found.firstKey();
        }

        public int leastPowers() {
            TreeMap<Integer, List<Integer>> found = new TreeMap<>();
            for (int a = 0; a < size(); a++) {
                if (independent(pows(a))) {
                    found.computeIfAbsent(weightOf(pows(a)), k -> new ArrayList<>()).add(a);
                }
            }
            tell(found.firstEntry().getValue().get(0), found.firstEntry().getValue().size());
            return found.firstKey();
        }

        private static int unlikePowers(int p) {
            for (int q = 2; q < p; q++) {
                if (p % q == 0) {
                    return 0;
                }
            }
            Set<Integer> all = new HashSet<>();
            int a = 1;
            for (int k = 0; k < 2 * p; k++) {
                all.add(a);
                a = 2 * a % p;
            }
            return all.size();
        }

        public int types(int n) {
            if (n < 2 || n > 100) {
                return -1;
            }
            int first = unlikePowers(n + 1);
            int second = unlikePowers(2 * n + 1);
            tell(first, second);
            return (first == n ? 1 : 0)
                + (second == 2 * n || second == n && (2 * n + 1) % 4 == 3 ? 2 : 0);
        }

        public int base(int s) {
            String read = text;
            text = "";
            int p = 0;
            int[] found = new int[m];
            for (int i = 0; i < m; i++) {
                if (i > 0) {
                    if (p >= read.length() || read.charAt(p) != ',') {
                        return -21 - p;
                    }
                    p++;
                }
                int q = p;
                while (q < read.length() && q < p + 3 && read.substring(p, q + 1).matches("0|[1-9][0-9]*")) {
                    q++;
                }
                if (q == p) {
                    return -21 - p;
                }
                found[i] = Integer.parseInt(read.substring(p, q));
                if (!el(found[i])) {
                    return -21 - (q - 1);
                }
                p = q;
            }
            if (p < read.length()) {
                return -21 - p;
            }
            int bits = 0;
            for (int one : found) {
                bits += Integer.bitCount(one);
            }
            return !sl(s) ? -1 : set(s, found) < 0 ? -2 : bits;
        }

        public int makes(int s, int a, int way) {
            return !sl(s) || !el(a) || way < 0 || way > 1 ? -1 : set(s, way == 0 ? pows(a) : conjs(a));
        }

        public int copies(int s, int t) {
            if (!sl(s) || !sl(t)) {
                return -1;
            }
            boolean other = !Arrays.equals(slots[s], slots[t]);
            set(t, slots[s].clone());
            return other ? 1 : 0;
        }

        public int scales(int s, int a) {
            if (!sl(s) || !el(a)) {
                return -1;
            }
            int[] base = slots[s].clone();
            for (int i = 0; i < m; i++) {
                base[i] = times(base[i], a);
            }
            return a == 0 ? -2 : set(s, base);
        }

        public int moves(int s, int i, int j) {
            if (!sl(s) || !pl(i) || !pl(j)) {
                return -1;
            }
            int[] base = slots[s].clone();
            base[i] = slots[s][j];
            base[j] = slots[s][i];
            return i == j ? -2 : set(s, base);
        }

        public int adds(int s, int i, int j) {
            if (!sl(s) || !pl(i) || !pl(j)) {
                return -1;
            }
            int[] base = slots[s].clone();
            base[i] ^= base[j];
            return i == j ? -2 : set(s, base);
        }

        public int at(int s, int i) {
            return sl(s) && pl(i) ? slots[s][i] : -1;
        }

        public int coordinates(int s, int a) {
            if (!sl(s) || !el(a)) {
                return -1;
            }
            int bits = byCoordinates(slots[s])[a];
            tell(Integer.bitCount(bits));
            return bits;
        }

        public int made(int s, int bits) {
            return sl(s) && el(bits) ? sum(list(slots[s]), bits) : -1;
        }

        private int tellCoordinates(int s, int[] elements) {
            int[] c = byCoordinates(slots[s]);
            int bits = 0;
            row = new ArrayList<>();
            for (int element : elements) {
                row.add((long) c[element]);
                bits += Integer.bitCount(c[element]);
            }
            return bits;
        }

        public int change(int s, int t) {
            return sl(s) && sl(t) ? tellCoordinates(t, slots[s]) : -1;
        }

        public int table(int s, int i, int j) {
            return sl(s) && pl(i) && pl(j) ? byCoordinates(slots[s])[times(slots[s][i], slots[s][j])] : -1;
        }

        public int complexity(int s) {
            if (!sl(s)) {
                return -1;
            }
            int found = complexityOf(slots[s]);
            int whose = normalElement(slots[s]);
            tell(weightOf(slots[s]), whose >= 0 && found == 2 * m - 1 ? 1 : 0, whose);
            return found;
        }

        public int by(int s, int a) {
            if (!sl(s) || !el(a)) {
                return -1;
            }
            int[] products = new int[m];
            for (int i = 0; i < m; i++) {
                products[i] = times(a, slots[s][i]);
            }
            int bits = tellCoordinates(s, products);
            long on = 0;
            for (int i = 0; i < m; i++) {
                on += row.get(i) >> i & 1;
            }
            row.add(on);
            return bits;
        }

        public int squares(int s) {
            if (!sl(s)) {
                return -1;
            }
            int[] products = new int[m];
            for (int i = 0; i < m; i++) {
                products[i] = times(slots[s][i], slots[s][i]);
            }
            return tellCoordinates(s, products);
        }

        public int productIn(int s, int a, int b) {
            return sl(s) && el(a) && el(b)
                ? byCoordinates(slots[s])[times(sum(list(slots[s]), a), sum(list(slots[s]), b))] : -1;
        }

        public int far(int s, int a, int b) {
            if (!sl(s) || !el(a) || !el(b)) {
                return -1;
            }
            int[] c = byCoordinates(slots[s]);
            tell(c[a] ^ c[b], c[a] & c[b]);
            return Integer.bitCount(c[a] ^ c[b]);
        }

        public int steady(int s) {
            if (!sl(s)) {
                return -1;
            }
            int[] c = byCoordinates(slots[s]);
            int many = 0;
            int first = -1;
            for (int a = size() - 1; a >= 0; a--) {
                boolean is = Integer.bitCount(c[a]) == Integer.bitCount(c[times(a, a)]);
                many += is ? 1 : 0;
                first = is ? first : a;
            }
            tell(first);
            return many;
        }

        public int bestScale(int s) {
            if (!sl(s)) {
                return -1;
            }
            int best = 1000;
            int whose = -1;
            for (int c = 1; c < size(); c++) {
                int[] base = slots[s].clone();
                for (int i = 0; i < m; i++) {
                    base[i] = times(base[i], c);
                }
                if (complexityOf(base) < best) {
                    best = complexityOf(base);
                    whose = c;
                }
            }
            tell(best);
            return whose;
        }

        public int same(int s, int t) {
            if (!sl(s) || !sl(t)) {
                return -1;
            }
            Set<Integer> common = new HashSet<>(list(slots[s]));
            common.retainAll(list(slots[t]));
            int at = 0;
            for (int i = 0; i < m; i++) {
                at += slots[s][i] == slots[t][i] ? 1 : 0;
            }
            tell(common.size(), at);
            return new HashSet<>(list(slots[s])).equals(new HashSet<>(list(slots[t]))) ? 1 : 0;
        }

        int[] dualOf(int[] base) {
            int[] dual = new int[m];
            for (int j = 0; j < m; j++) {
                for (int a = 0; a < size(); a++) {
                    boolean is = true;
                    for (int i = 0; i < m; i++) {
                        is &= tr(times(base[i], a), 1) == (i == j ? 1 : 0);
                    }
                    dual[j] = is ? a : dual[j];
                }
            }
            return dual;
        }

        public int dual(int s, int t) {
            if (!sl(s) || !sl(t)) {
                return -1;
            }
            int[] dual = dualOf(slots[s]);
            tellAll(dual);
            return set(t, dual);
        }

        public int weakly(int s) {
            if (!sl(s)) {
                return -1;
            }
            int[] dual = dualOf(slots[s]);
            for (int c = 1; c < size(); c++) {
                List<Integer> places = new ArrayList<>();
                for (int d : dual) {
                    places.add(list(slots[s]).indexOf(times(c, d)));
                }
                if (!places.contains(-1)) {
                    tellAll(places);
                    return c;
                }
            }
            return -2;
        }

        public int traces(int s) {
            if (!sl(s)) {
                return -1;
            }
            row = new ArrayList<>();
            for (int i = 0; i < m; i++) {
                long bits = 0;
                for (int j = 0; j < m; j++) {
                    bits += (long) tr(times(slots[s][i], slots[s][j]), 1) << j;
                }
                row.add(bits);
            }
            return Arrays.equals(dualOf(slots[s]), slots[s]) ? 1 : 0;
        }

        public int tower(int s, int d, int a) {
            if (!sl(s) || !div(d) || !el(a)) {
                return -1;
            }
            int[] base = new int[m];
            for (int place = 0; place < m; place++) {
                int p = 1;
                for (int k = 0; k < place / d; k++) {
                    p = times(p, a);
                }
                base[place] = times(subbase(d)[place % d], p);
            }
            return set(s, base);
        }

        List<Integer> rootsOf(int g) {
            List<Integer> found = new ArrayList<>();
            for (int a = 0; a < size(); a++) {
                if (value(g, a) == 0) {
                    found.add(a);
                }
            }
            return found;
        }

        public int fits(int g) {
            if (!div(degree(g))) {
                return -1;
            }
            if (!irreducible(g)) {
                return -2;
            }
            tellAll(rootsOf(g));
            return rootsOf(g).size();
        }

        public int maps(int g, int r, int e) {
            if (!div(degree(g)) || !irreducible(g) || !el(r) || e < 0 || e >= 1 << degree(g)) {
                return -1;
            }
            return value(g, r) == 0 ? value(e, r) : -2;
        }

        public int irreducibles(int n) {
            if (n < 1 || n > 8) {
                return -1;
            }
            int many = 0;
            int first = -1;
            int generated = 0;
            for (int p = (2 << n) - 1; p >= 1 << n; p--) {
                if (irreducible(p)) {
                    many++;
                    first = p;
                    Model other = new Model();
                    other.poly = p;
                    other.m = n;
                    generated += n > 1 && other.ord(2) == (1 << n) - 1 ? 1 : 0;
                }
            }
            tell(first, generated);
            return many;
        }

        public int undo() {
            if (past.isEmpty()) {
                return -2;
            }
            become(past.removeLast());
            return past.size();
        }

        public int keeps() {
            kept = now();
            return m;
        }

        public int back() {
            if (kept == null) {
                return -2;
            }
            deed();
            become(kept);
            return m;
        }

        public int written(int k) {
            String all = writtenOf(poly);
            return k == -1 ? all.length() : k >= 0 && k < all.length() ? all.charAt(k) : -1;
        }

        public int count(int what) {
            int normalBits = 0;
            int plainBits = 0;
            for (int s = 0; s < 4; s++) {
                normalBits += normalElement(slots[s]) >= 0 ? 1 << s : 0;
                plainBits += Arrays.equals(slots[s], plain(m)[s]) ? 1 << s : 0;
            }
            int[] all = {m, poly, past.size(), row.size(), text.length(), normalBits, plainBits};
            return what >= 0 && what < all.length ? all[what] : -1;
        }

        public long row(int i) {
            if (i < 0 || i >= row.size()) {
                throw new NoSuchElementException();
            }
            return row.get(i);
        }
    }
}
