import java.util.Arrays;
import java.util.NoSuchElementException;

/** Promise by promise: ordinary inputs, the edges that the document names, wrong inputs. */
public final class PromiseTest {
    private static final int MIN = Integer.MIN_VALUE;
    private static final int MAX = Integer.MAX_VALUE;
    private static int wrong = 0;
    private static int compared = 0;

    public static void main(String[] args) {
        newObject();
        texts();
        fields();
        products();
        conjugates();
        tracesAndRoots();
        polynomials();
        counts();
        normalOnes();
        kindsOfNormal();
        slotsTold();
        slotsChanged();
        coordinatesAsked();
        basesAsked();
        duals();
        towers();
        otherFields();
        undone();
        kept();
        written();
        counted();
        rowStays();
        System.out.println("PromiseTest: " + compared + " answers compared, " + wrong + " wrong");
        if (wrong != 0) {
            System.exit(1);
        }
    }

    private static void due(String what, long got, long want) {
        compared++;
        if (got != want) {
            wrong++;
            System.out.println(what + " answered " + got + ", due is " + want);
        }
    }

    private static void due(String what, boolean got, boolean want) {
        due(what, got ? 1 : 0, want ? 1 : 0);
    }

    private static void rowDue(String what, FieldBases x, long... want) {
        long[] got = new long[x.count(3)];
        for (int i = 0; i < got.length; i++) {
            got[i] = x.row(i);
        }
        compared++;
        if (!Arrays.equals(got, want)) {
            wrong++;
            System.out.println(what + ": the row is " + Arrays.toString(got) + ", due is " + Arrays.toString(want));
        }
    }

    private static boolean rowThrows(FieldBases x, int i) {
        try {
            x.row(i);
            return false;
        } catch (NoSuchElementException e) {
            return true;
        }
    }

    private static void tells(FieldBases x, String text) {
        int had = x.count(4);
        for (int i = 0; i < text.length(); i += 4) {
            int v = 0;
            for (int k = 0; k < 4; k++) {
                v = v << 8 | (i + k < text.length() ? text.charAt(i + k) : 0);
            }
            x.sign(v);
        }
        x.end(had + text.length());
    }

    private static int fieldBy(FieldBases x, String text) {
        tells(x, text);
        int answer = x.field();
        due("signs left by field() of " + text, x.count(4), 0);
        return answer;
    }

    private static int baseBy(FieldBases x, int s, String text) {
        tells(x, text);
        int answer = x.base(s);
        due("signs left by base() of " + text, x.count(4), 0);
        return answer;
    }

    private static FieldBases by(int poly) {
        FieldBases x = new FieldBases();
        x.poly(poly);
        return x;
    }

    // 1
    private static void newObject() {
        FieldBases x = new FieldBases();
        due("1 m", x.count(0), 2);
        due("1 poly", x.count(1), 7);
        due("1 deeds", x.count(2), 0);
        due("1 row", x.count(3), 0);
        due("1 text", x.count(4), 0);
        due("1 plain slots", x.count(6), 15);
        due("1 row(0) throws", rowThrows(x, 0), true);
        due("1 NONE", FieldBases.NONE, -1);
    }

    // 2, 3
    private static void texts() {
        FieldBases x = new FieldBases();
        for (int k = 1; k <= 25; k++) {
            due("2 sign", x.sign(0x78342B31), 4 * k);
        }
        due("2 more than 100", x.sign(0), -1);
        due("2 still", x.count(4), 100);
        due("3 end(101)", x.end(101), false);
        due("3 end(-1)", x.end(-1), false);
        due("3 end(MIN)", x.end(MIN), false);
        due("3 end(MAX)", x.end(MAX), false);
        due("3 still", x.count(4), 100);
        due("3 end(100)", x.end(100), true);
        due("3 end(97)", x.end(97), true);
        due("3 97 are left", x.count(4), 97);
        due("2 97 and 4", x.sign(0), -1);
        due("3 end(96)", x.end(96), true);
        due("2 96 and 4", x.sign(0), 100);
        due("3 end(0)", x.end(0), true);
        due("3 end(1)", x.end(1), false);
        due("3 end(0) of none", x.end(0), true);
        x.sign(0x78332B78);
        x.sign(0x2B31FFFF);
        x.end(6);
        due("2 the highest byte is first", x.field(), 3);
        due("2 poly", x.count(1), 11);
        x.sign(-1);
        due("2 a sign of 255", x.field(), -21);
    }

    // 4, 5
    private static void fields() {
        FieldBases x = new FieldBases();
        due("4", fieldBy(x, "x4+x+1"), 4);
        due("4 poly", x.count(1), 19);
        due("4 x2+x+1", fieldBy(x, "x2+x+1"), 2);
        due("4 x8+x4+x3+x+1", fieldBy(x, "x8+x4+x3+x+1"), 8);
        due("4 poly", x.count(1), 283);
        due("4 x7+x6+x5+x4+x3+x2+1", fieldBy(x, "x7+x6+x5+x4+x3+x2+1"), 7);
        due("4 poly", x.count(1), 253);
        due("4 deeds", x.count(2), 4);
        String[] bad = {"", "x", "1", "x1", "x0", "x9", "+", "x4+", "x4+x4", "x4+x5+1", "x4+x1", "x4+x0", "x4+x+", "x4+x+x",
            "x4+x+x2", "x4+1+", "x4+1+x", "x4+11", "x4+x3+x3", "x2+x2", "x2+xx", "x42", "x4x", "x4+x+1 ", "X4", "x4-1", "x4++1",
            "x3+x2+x2", "x5+2", "x4+x+x+1"};
        int[] at = {0, 1, 0, 1, 1, 1, 0, 3, 4, 4, 4, 4, 5, 5, 5, 4, 4, 4, 7, 4, 4, 2, 2, 6, 0, 2, 3, 7, 3, 5};
        for (int i = 0; i < bad.length; i++) {
            due("4 field of '" + bad[i] + "'", fieldBy(x, bad[i]), -21 - at[i]);
        }
        String[] split = {"x2", "x4", "x4+x", "x4+1", "x4+x2+1", "x8+x7+x6+x5+x4+x3+x2+x+1", "x3+x2+x+1"};
        for (String text : split) {
            due("4 field of '" + text + "'", fieldBy(x, text), -2);
        }
        due("4 refused: poly", x.count(1), 253);
        due("4 refused: deeds", x.count(2), 4);
        x.makes(2, 2, 0);
        x.moves(2, 0, 1);
        due("5 poly(19)", x.poly(19), 4);
        due("5 all slots anew", x.count(6), 15);
        due("5 deeds", x.count(2), 7);
        due("5 poly(7)", x.poly(7), 2);
        due("5 poly(285)", x.poly(285), 8);
        int[] none = {-1, 0, 1, 2, 3, 512, 515, 1033, MIN, MAX, -283};
        for (int n : none) {
            due("5 poly(" + n + ")", x.poly(n), -1);
        }
        int[] reducible = {4, 5, 6, 8, 21, 257, 511, 510};
        for (int n : reducible) {
            due("5 poly(" + n + ")", x.poly(n), -2);
        }
        due("5 refused", x.count(1), 285);
        int[] many = {0, 0, 0, 0, 0, 0, 0, 0, 0};
        for (int n = 0; n < 600; n++) {
            int m = new FieldBases().poly(n);
            if (m > 0) {
                many[m]++;
            }
        }
        due("5 all fields", Arrays.equals(many, new int[] {0, 0, 1, 2, 3, 6, 9, 18, 30}), true);
    }

    // 6 .. 9
    private static void products() {
        FieldBases x = by(283);
        due("6 57 by 83", x.product(0x57, 0x83), 0xC1);
        due("6 57 by 13", x.product(0x57, 0x13), 0xFE);
        due("6 by 0", x.product(0x57, 0), 0);
        due("6 0 by", x.product(0, 0x57), 0);
        due("6 by 1", x.product(1, 255), 255);
        due("7 of 53", x.inverse(0x53), 0xCA);
        due("7 of CA", x.inverse(0xCA), 0x53);
        due("7 of 1", x.inverse(1), 1);
        due("7 of 0", x.inverse(0), -2);
        due("8 2^8", x.power(2, 8), 0x1B);
        due("8 3^255", x.power(3, 255), 1);
        due("8 3^256", x.power(3, 256), 3);
        due("8 3^1000000000", x.power(3, 1000000000), x.power(3, 1000000000 % 255));
        due("8 3^1000000001", x.power(3, 1000000001), -1);
        due("8 3^-1", x.power(3, -1), -1);
        due("8 0^0", x.power(0, 0), 1);
        due("8 0^1", x.power(0, 1), 0);
        due("8 0^1000000000", x.power(0, 1000000000), 0);
        due("8 5^0", x.power(5, 0), 1);
        due("9 of 3", x.order(3), 255);
        rowDue("9 of 3", x, 1);
        due("9 of 2", x.order(2), 51);
        rowDue("9 of 2", x, 0);
        due("9 of 1", x.order(1), 1);
        rowDue("9 of 1", x, 0);
        x.order(3);
        due("9 of 0", x.order(0), -2);
        rowDue("9 of 0", x, 1);
        int[] none = {-1, 256, MIN, MAX};
        for (int a : none) {
            due("6 none a", x.product(a, 1), -1);
            due("6 none b", x.product(1, a), -1);
            due("7 none", x.inverse(a), -1);
            due("8 none", x.power(a, 1), -1);
            due("9 none", x.order(a), -1);
        }
        FieldBases y = by(19);
        due("6 3 by 7", y.product(3, 7), 9);
        due("6 16 is none", y.product(16, 1), -1);
        due("7 of 2", y.inverse(2), 9);
        due("9 of 8", y.order(8), 5);
    }

    // 10 .. 12
    private static void conjugates() {
        FieldBases x = by(19);
        due("10 0", x.conjugate(2, 0), 2);
        due("10 1", x.conjugate(2, 1), 4);
        due("10 3", x.conjugate(2, 3), 5);
        due("10 100", x.conjugate(2, 100), 2);
        due("10 99", x.conjugate(2, 99), 5);
        due("10 101", x.conjugate(2, 101), -1);
        due("10 -1", x.conjugate(2, -1), -1);
        due("10 none", x.conjugate(16, 1), -1);
        due("10 below", x.conjugate(-1, 1), -1);
        due("11 of 2", x.conjugates(2), 4);
        rowDue("11 of 2", x, 2, 4, 3, 5);
        due("11 of 6", x.conjugates(6), 2);
        rowDue("11 of 6", x, 6, 7);
        due("11 of 0", x.conjugates(0), 1);
        rowDue("11 of 0", x, 0);
        due("11 of 1", x.conjugates(1), 1);
        rowDue("11 of 1", x, 1);
        due("11 none", x.conjugates(16), -1);
        due("11 below", x.conjugates(-1), -1);
        rowDue("11 none", x, 1);
        due("12 of 2", x.least(2), 19);
        rowDue("12 of 2", x, 4, 0);
        due("12 of 9", x.least(9), 25);
        rowDue("12 of 9", x, 4, 1);
        due("12 of 7", x.least(7), 7);
        rowDue("12 of 7", x, 2, 1);
        due("12 of 0", x.least(0), 2);
        rowDue("12 of 0", x, 1, 0);
        due("12 of 1", x.least(1), 3);
        rowDue("12 of 1", x, 1, 1);
        due("12 none", x.least(16), -1);
        due("12 below", x.least(-1), -1);
        due("12 of 2 by 283", by(283).least(2), 283);
        due("12 of 3 by 283", by(283).least(3), 285);
    }

    // 13 .. 18
    private static void tracesAndRoots() {
        FieldBases x = by(19);
        int[] traces = {0, 0, 0, 0, 0, 0, 0, 0, 1, 1, 1, 1, 1, 1, 1, 1};
        for (int a = 0; a < 16; a++) {
            due("13 of " + a, x.trace(a, 1), traces[a]);
            due("13 to 4", x.trace(a, 4), a);
            due("14 to 1", x.norm(a, 1), a == 0 ? 0 : 1);
            due("14 to 4", x.norm(a, 4), a);
            due("15", x.product(x.root(a), x.root(a)), a);
        }
        due("13 2 to 2", x.trace(2, 2), 1);
        due("13 8 to 2", x.trace(8, 2), 7);
        due("14 2 to 2", x.norm(2, 2), 6);
        due("14 6 to 2", x.norm(6, 2), 7);
        int[] none = {0, 3, 5, 8, -1, -2, MIN, MAX};
        for (int d : none) {
            due("13 to " + d, x.trace(2, d), -1);
            due("14 to " + d, x.norm(2, d), -1);
            due("18 to " + d, x.traced(d, 0), -1);
        }
        due("13 none", x.trace(16, 1), -1);
        due("14 none", x.norm(-1, 1), -1);
        due("15 of 2", x.root(2), 5);
        due("15 none", x.root(16), -1);
        due("15 below", x.root(-1), -1);
        due("16 of 1", x.solves(1), 6);
        rowDue("16 of 1", x, 7);
        due("16 of 0", x.solves(0), 0);
        rowDue("16 of 0", x, 1);
        due("16 of 8", x.solves(8), -2);
        due("16 none", x.solves(16), -1);
        due("16 below", x.solves(-1), -1);
        rowDue("16 refused", x, 1);
        due("17 2 9", x.log(2, 9), 14);
        due("17 2 1", x.log(2, 1), 0);
        due("17 6 2", x.log(6, 2), -2);
        due("17 6 7", x.log(6, 7), 2);
        due("17 0 0", x.log(0, 0), 1);
        due("17 0 1", x.log(0, 1), 0);
        due("17 0 2", x.log(0, 2), -2);
        due("17 1 0", x.log(1, 0), -2);
        due("17 none a", x.log(16, 2), -1);
        due("17 none b", x.log(2, -1), -1);
        due("17 in 256", by(285).log(2, 142), 254);
        due("18 1 1", x.traced(1, 1), 8);
        rowDue("18 1 1", x, 8);
        due("18 2 1", x.traced(2, 1), 4);
        rowDue("18 2 1", x, 2);
        due("18 2 2", x.traced(2, 2), 0);
        rowDue("18 2 2", x, -1);
        due("18 4 11", x.traced(4, 11), 1);
        rowDue("18 4 11", x, 11);
        due("18 v none", x.traced(1, 16), -1);
        due("18 v below", x.traced(1, -1), -1);
        rowDue("18 refused", x, 11);
    }

    // 19
    private static void polynomials() {
        FieldBases x = new FieldBases();
        due("19 of 15", x.factors(15), 3);
        rowDue("19 of 15", x, 3, 3, 3);
        due("19 of 2", x.factors(2), 2);
        rowDue("19 of 2", x, 2);
        due("19 of 3", x.factors(3), 3);
        due("19 of 6", x.factors(6), 2);
        rowDue("19 of 6", x, 2, 3);
        due("19 of 512", x.factors(512), 2);
        rowDue("19 of 512", x, 2, 2, 2, 2, 2, 2, 2, 2, 2);
        due("19 of 21", x.factors(21), 7);
        rowDue("19 of 21", x, 7, 7);
        due("19 of 1023", x.factors(1023), 3);
        rowDue("19 of 1023", x, 3, 31, 31);
        due("19 of 513", x.factors(513), 3);
        rowDue("19 of 513", x, 3, 7, 73);
        due("19 of 529", x.factors(529), 529);
        rowDue("19 of 529", x, 529);
        int[] none = {1, 0, -1, 1024, MIN, MAX};
        for (int p : none) {
            due("19 of " + p, x.factors(p), -1);
        }
        rowDue("19 refused", x, 529);
    }

    // 20 .. 24
    private static void counts() {
        FieldBases x = by(19);
        due("20", x.orders(), 4);
        rowDue("20", x, 1, 1, 3, 2, 5, 4, 15, 8);
        due("20 of 256", by(283).orders(), 8);
        FieldBases y = by(283);
        y.orders();
        rowDue("20 of 256", y, 1, 1, 3, 2, 5, 4, 15, 8, 17, 16, 51, 32, 85, 64, 255, 128);
        FieldBases z = by(37);
        due("20 of 32", z.orders(), 2);
        rowDue("20 of 32", z, 1, 1, 31, 30);
        due("21 1 1 1", x.quadratic(1, 1, 1), 2);
        rowDue("21 1 1 1", x, 6, 7);
        due("21 1 0 2", x.quadratic(1, 0, 2), 1);
        rowDue("21 1 0 2", x, 5);
        due("21 0 2 3", x.quadratic(0, 2, 3), 1);
        rowDue("21 0 2 3", x, 8);
        due("21 0 0 0", x.quadratic(0, 0, 0), 16);
        rowDue("21 0 0 0", x, 0, 1, 2, 3, 4, 5, 6, 7);
        due("21 0 0 1", x.quadratic(0, 0, 1), 0);
        rowDue("21 0 0 1", x);
        due("21 3 5 0", x.quadratic(3, 5, 0), 2);
        rowDue("21 3 5 0", x, 0, x.product(5, x.inverse(3)));
        due("21 none a", x.quadratic(16, 0, 0), -1);
        due("21 none b", x.quadratic(0, -1, 0), -1);
        due("21 none c", x.quadratic(0, 0, 16), -1);
        due("21 refused", x.count(3), 2);
        due("22", x.classes(), 6);
        rowDue("22", x, 2, 2, 0, 12);
        due("22 of 256", y.classes(), 36);
        rowDue("22 of 256", y, 2, 2, 0, 12, 0, 0, 0, 240);
        due("23", x.generators(), 8);
        rowDue("23", x, 2);
        due("23 of 256", y.generators(), 128);
        rowDue("23 of 256", y, 3);
        due("24 2", x.subfield(2), 4);
        rowDue("24 2", x, 1, 6);
        due("24 1", x.subfield(1), 2);
        rowDue("24 1", x, 1);
        due("24 4", x.subfield(4), 16);
        rowDue("24 4", x, 1, 2, 4, 8);
        int[] none = {0, 3, 5, 8, -1, MIN, MAX};
        for (int d : none) {
            due("24 " + d, x.subfield(d), -1);
        }
        rowDue("24 refused", x, 1, 2, 4, 8);
        due("24 4 of 256", y.subfield(4), 16);
        due("24 4 of 256 has", y.count(3), 4);
        due("24 0 of 256", y.subfield(0), -1);
    }

    // 25 .. 27
    private static void normalOnes() {
        FieldBases x = by(19);
        due("25 of 8", x.normal(8), 1);
        rowDue("25 of 8", x, 4);
        due("25 of 2", x.normal(2), 0);
        rowDue("25 of 2", x, 3);
        due("25 of 0", x.normal(0), 0);
        rowDue("25 of 0", x, 0);
        due("25 of 1", x.normal(1), 0);
        rowDue("25 of 1", x, 1);
        due("25 of 6", x.normal(6), 0);
        rowDue("25 of 6", x, 2);
        due("25 none", x.normal(16), -1);
        due("25 below", x.normal(-1), -1);
        rowDue("25 refused", x, 2);
        due("26", x.normals(), 8);
        rowDue("26", x, 8, 9);
        int[] polys = {7, 11, 19, 37, 67, 131, 283};
        int[] normals = {2, 3, 8, 15, 24, 49, 128};
        for (int i = 0; i < polys.length; i++) {
            due("26 by " + polys[i], by(polys[i]).normals(), normals[i]);
        }
        due("27 of 8", x.complete(8), 6);
        due("27 of 2", x.complete(2), 4);
        due("27 of 0", x.complete(0), 0);
        due("27 of 1", x.complete(1), 0);
        due("27 none", x.complete(16), -1);
        due("27 below", x.complete(-1), -1);
        due("27 m 2", new FieldBases().complete(2), 2);
        FieldBases y = by(67);
        int all = 0;
        for (int a = 0; a < 64; a++) {
            all |= y.complete(a);
        }
        due("27 of all of 64", all, 2 | 4 | 8);
    }

    // 28 .. 30
    private static void kindsOfNormal() {
        int[] polys = {7, 11, 19, 37, 67, 131, 283};
        int[] least = {3, 5, 7, 9, 11, 19, 21};
        for (int i = 0; i < polys.length; i++) {
            due("28 by " + polys[i], by(polys[i]).leastNormal(), least[i]);
        }
        FieldBases x = by(19);
        due("28", x.leastNormal(), 7);
        rowDue("28", x, 8, 4);
        due("29", x.leastPowers(), 14);
        rowDue("29", x, 2, 4);
        due("29 m 2", new FieldBases().leastPowers(), 4);
        int[] first = {2, 4, 10, 12, 18, 28, 36, 52, 58, 60, 66, 82, 100};
        int[] second = {2, 3, 5, 6, 9, 11, 14, 18, 23, 26, 29, 30, 33, 35, 39, 41, 50, 51, 53, 65, 69, 74, 81, 83, 86, 89, 90,
            95, 98, 99};
        for (int n = 2; n <= 100; n++) {
            int bits = Arrays.binarySearch(first, n) >= 0 ? 1 : 0;
            bits += Arrays.binarySearch(second, n) >= 0 ? 2 : 0;
            due("30 of " + n, x.types(n), bits);
        }
        due("30 of 7", x.types(7), 0);
        rowDue("30 of 7", x, 0, 0);
        due("30 of 8", x.types(8), 0);
        rowDue("30 of 8", x, 0, 8);
        due("30 of 3", x.types(3), 2);
        rowDue("30 of 3", x, 0, 3);
        due("30 of 16", x.types(16), 0);
        rowDue("30 of 16", x, 8, 0);
        int[] none = {1, 0, -1, 101, MIN, MAX};
        for (int n : none) {
            due("30 of " + n, x.types(n), -1);
        }
        rowDue("30 refused", x, 8, 0);
    }

    // 31
    private static void slotsTold() {
        FieldBases x = by(19);
        due("31", baseBy(x, 0, "1,2,4,8"), 4);
        due("31", baseBy(x, 1, "3,6,12,11"), 9);
        due("31 at", x.at(1, 3), 11);
        due("31 deeds", x.count(2), 3);
        due("31 not independent", baseBy(x, 0, "1,2,3,8"), -2);
        due("31 a nought", baseBy(x, 0, "1,2,0,8"), -2);
        due("31 twice", baseBy(x, 0, "1,2,2,8"), -2);
        String[] bad = {"", "1", "1,", "1,2,4", "1,2,4,", "01", "00", "1,2,16,8", "1,2,99,8", "1,2,160,8", "1000", "1,2,4,8,",
            "1,2,4,8,1", "1,2,4,8 ", " 1", "1,,2", ",1", "-1", "1;2", "1,2,4,x", "999,", "1,2,03", "1,2,4,80"};
        int[] at = {0, 1, 2, 5, 6, 1, 1, 5, 5, 6, 2, 7, 7, 7, 0, 2, 0, 0, 1, 6, 2, 5, 7};
        for (int i = 0; i < bad.length; i++) {
            due("31 base of '" + bad[i] + "'", baseBy(x, 0, bad[i]), -21 - at[i]);
        }
        due("31 a wrong text comes ahead of a wrong slot", baseBy(x, 4, "1,2"), -24);
        due("31 a wrong slot comes ahead of -2", baseBy(x, 4, "1,2,3,8"), -1);
        due("31 slot 4", baseBy(x, 4, "1,2,4,8"), -1);
        due("31 slot -1", baseBy(x, -1, "1,2,4,8"), -1);
        due("31 refused: deeds", x.count(2), 3);
        due("31 refused: the slot", x.at(0, 2), 4);
        due("31 slot 3", baseBy(x, 3, "15,2,4,8"), 7);
        FieldBases y = by(283);
        due("31 of 256", baseBy(y, 2, "255,2,4,8,16,32,64,128"), 15);
        due("31 256 there is none of", baseBy(y, 2, "256,2,4,8,16,32,64,128"), -23);
        due("31 four digits", baseBy(y, 2, "2550,2,4,8,16,32,64,128"), -24);
        FieldBases z = new FieldBases();
        due("31 of 4", baseBy(z, 0, "3,2"), 3);
        due("31 of 4: 4", baseBy(z, 0, "4,2"), -21);
        due("31 of 4: three", baseBy(z, 0, "3,2,1"), -24);
    }

    // 32 .. 37
    private static void slotsChanged() {
        FieldBases x = by(19);
        due("32 conjugates", x.makes(0, 8, 1), 7);
        due("32 place 1", x.at(0, 1), 12);
        due("32 powers", x.makes(1, 4, 0), 4);
        due("32 place 0", x.at(1, 0), 1);
        due("32 place 3", x.at(1, 3), 12);
        due("32 dependent conjugates", x.makes(0, 2, 1), -2);
        due("32 dependent powers", x.makes(0, 6, 0), -2);
        due("32 nought", x.makes(0, 0, 0), -2);
        due("32 way 2", x.makes(0, 2, 2), -1);
        due("32 way -1", x.makes(0, 8, -1), -1);
        due("32 slot 4", x.makes(4, 8, 1), -1);
        due("32 slot -1", x.makes(-1, 8, 1), -1);
        due("32 no element", x.makes(0, 16, 1), -1);
        due("32 below", x.makes(0, -1, 1), -1);
        due("32 deeds", x.count(2), 3);
        due("33 another", x.copies(0, 2), 1);
        due("33 the same", x.copies(0, 2), 0);
        due("33 a deed both times", x.count(2), 5);
        due("33 itself", x.copies(0, 0), 0);
        due("35", x.moves(2, 0, 3), x.complexity(2));
        due("33 in another order", x.copies(0, 2), 1);
        due("33 slot 4", x.copies(4, 0), -1);
        due("33 slot -1", x.copies(0, -1), -1);
        FieldBases y = by(19);
        due("34 by 2", y.scales(0, 2), 5);
        due("34 place 0", y.at(0, 0), 2);
        due("34 place 3", y.at(0, 3), 3);
        due("34 by 0", y.scales(0, 0), -2);
        due("34 by 16", y.scales(0, 16), -1);
        due("34 by -1", y.scales(0, -1), -1);
        due("34 slot 4 by 0", y.scales(4, 0), -1);
        due("34 by 1", y.scales(0, 1), 5);
        due("34 deeds", y.count(2), 3);
        due("35 0 3", y.moves(1, 0, 3), 7);
        due("35 place 0", y.at(1, 0), 8);
        due("35 place 3", y.at(1, 3), 1);
        due("35 place 1", y.at(1, 1), 2);
        due("35 alike", y.moves(1, 1, 1), -2);
        due("35 place 4", y.moves(1, 4, 4), -1);
        due("35 place -1", y.moves(1, 0, -1), -1);
        due("35 slot 4", y.moves(4, 0, 0), -1);
        due("36 3 0", y.adds(1, 3, 0), 8);
        due("36 place 3", y.at(1, 3), 9);
        due("36 place 0", y.at(1, 0), 8);
        due("36 alike", y.adds(1, 2, 2), -2);
        due("36 place 4", y.adds(1, 4, 0), -1);
        due("36 place -1", y.adds(1, 0, -1), -1);
        due("36 slot -1", y.adds(-1, 0, 1), -1);
        due("37 slot 4", y.at(4, 0), -1);
        due("37 slot -1", y.at(-1, 0), -1);
        due("37 place 4", y.at(0, 4), -1);
        due("37 place -1", y.at(0, -1), -1);
        due("37", y.at(2, 3), 8);
    }

    // 38 .. 41
    private static void coordinatesAsked() {
        FieldBases x = by(19);
        x.makes(0, 8, 1);
        due("38 of 1", x.coordinates(0, 1), 15);
        rowDue("38 of 1", x, 4);
        due("38 of 8", x.coordinates(0, 8), 1);
        rowDue("38 of 8", x, 1);
        due("38 of 0", x.coordinates(0, 0), 0);
        rowDue("38 of 0", x, 0);
        due("38 none", x.coordinates(0, 16), -1);
        due("38 slot 4", x.coordinates(4, 1), -1);
        due("39 15", x.made(0, 15), 1);
        due("39 0", x.made(0, 0), 0);
        due("39 2", x.made(0, 2), 12);
        due("39 16", x.made(0, 16), -1);
        due("39 -1", x.made(0, -1), -1);
        due("39 slot -1", x.made(-1, 1), -1);
        for (int a = 0; a < 16; a++) {
            due("38, 39 of " + a, x.made(0, x.coordinates(0, a)), a);
        }
        due("40 2 0", x.change(2, 0), 9);
        rowDue("40 2 0", x, 15, 9, 3, 1);
        due("40 0 2", x.change(0, 2), 9);
        rowDue("40 0 2", x, 8, 12, 15, 10);
        due("40 0 0", x.change(0, 0), 4);
        rowDue("40 0 0", x, 1, 2, 4, 8);
        due("40 slot 4", x.change(0, 4), -1);
        due("40 slot -1", x.change(-1, 0), -1);
        rowDue("40 refused", x, 1, 2, 4, 8);
        due("41 0 2", x.table(0, 0, 2), 15);
        due("41 0 0", x.table(0, 0, 0), 2);
        due("41 2 0", x.table(0, 2, 0), 15);
        due("41 plain 3 3", x.table(1, 3, 3), 12);
        due("41 slot 4", x.table(4, 0, 0), -1);
        due("41 place 4", x.table(0, 4, 0), -1);
        due("41 place -1", x.table(0, 0, -1), -1);
    }

    // 42 .. 49
    private static void basesAsked() {
        FieldBases x = by(19);
        x.makes(0, 8, 1);
        due("42 normal", x.complexity(0), 7);
        rowDue("42 normal", x, 16, 1, 8);
        due("42 plain", x.complexity(1), 4);
        rowDue("42 plain", x, 14, 0, -1);
        x.makes(3, 9, 1);
        due("42 normal, not optimal", x.complexity(3), 9);
        due("42 not optimal", x.row(1), 0);
        due("42 whose", x.row(2), 9);
        x.moves(0, 0, 2);
        due("42 in another order", x.complexity(0), 7);
        due("42 not optimal so", x.row(1), 0);
        due("42 nobody's", x.row(2), -1);
        x.undo();
        due("42 slot 4", x.complexity(4), -1);
        due("42 slot -1", x.complexity(-1), -1);
        due("43 plain by 2", x.by(1, 2), 5);
        rowDue("43 plain by 2", x, 2, 4, 8, 3, 0);
        due("43 by 1", x.by(1, 1), 4);
        rowDue("43 by 1", x, 1, 2, 4, 8, 4);
        due("43 by 0", x.by(0, 0), 0);
        rowDue("43 by 0", x, 0, 0, 0, 0, 0);
        due("43 by 16", x.by(0, 16), -1);
        due("43 slot 4", x.by(4, 1), -1);
        rowDue("43 refused", x, 0, 0, 0, 0, 0);
        due("44 plain", x.squares(1), 6);
        rowDue("44 plain", x, 1, 4, 3, 12);
        due("44 normal", x.squares(0), 4);
        rowDue("44 normal", x, 2, 4, 8, 1);
        due("44 slot 4", x.squares(4), -1);
        due("45 1 2", x.productIn(0, 1, 2), 8);
        due("45 15 is 1", x.productIn(0, 15, 11), 11);
        due("45 0", x.productIn(0, 0, 11), 0);
        due("45 plain", x.productIn(1, 3, 7), 9);
        due("45 16", x.productIn(0, 16, 1), -1);
        due("45 -1", x.productIn(0, 1, -1), -1);
        due("45 slot 4", x.productIn(4, 1, 1), -1);
        due("46 3 6", x.far(1, 3, 6), 2);
        rowDue("46 3 6", x, 5, 2);
        due("46 1 8", x.far(0, 1, 8), 3);
        rowDue("46 1 8", x, 14, 1);
        due("46 alike", x.far(0, 5, 5), 0);
        due("46 16", x.far(0, 16, 1), -1);
        due("46 -1", x.far(0, 1, -1), -1);
        due("46 slot -1", x.far(-1, 1, 1), -1);
        due("47 normal", x.steady(0), 16);
        rowDue("47 normal", x, -1);
        due("47 plain", x.steady(1), 6);
        rowDue("47 plain", x, 4);
        due("47 slot 4", x.steady(4), -1);
        due("48 plain", x.bestScale(1), 1);
        rowDue("48 plain", x, 4);
        due("48 normal", x.bestScale(0), 15);
        rowDue("48 normal", x, 4);
        due("48 slot 4", x.bestScale(4), -1);
        due("48 changes nothing", x.at(0, 0), 8);
        due("49 itself", x.same(0, 0), 1);
        rowDue("49 itself", x, 4, 4);
        x.copies(1, 2);
        x.moves(2, 0, 1);
        due("49 in another order", x.same(1, 2), 1);
        rowDue("49 in another order", x, 4, 2);
        x.adds(2, 3, 0);
        due("49 another", x.same(1, 2), 0);
        rowDue("49 another", x, 3, 1);
        due("49 slot 4", x.same(0, 4), -1);
        due("49 slot -1", x.same(-1, 0), -1);
    }

    // 50 .. 52
    private static void duals() {
        FieldBases x = by(19);
        due("50 plain", x.dual(0, 1), 5);
        rowDue("50 plain", x, 9, 4, 2, 1);
        due("50 at", x.at(1, 0), 9);
        due("50 the dual's dual", x.dual(1, 1), 4);
        rowDue("50 the dual's dual", x, 1, 2, 4, 8);
        due("50 deeds", x.count(2), 3);
        due("50 slot 4", x.dual(4, 0), -1);
        due("50 slot -1", x.dual(0, -1), -1);
        rowDue("50 refused", x, 1, 2, 4, 8);
        due("51 plain", x.weakly(0), 2);
        rowDue("51 plain", x, 0, 3, 2, 1);
        x.makes(2, 8, 1);
        due("51 normal", x.weakly(2), -2);
        rowDue("51 refused", x, 0, 3, 2, 1);
        due("51 slot 4", x.weakly(4), -1);
        due("52 normal", x.traces(2), 0);
        rowDue("52 normal", x, 11, 7, 14, 13);
        due("52 slot 4", x.traces(4), -1);
        FieldBases y = by(11);
        y.makes(0, 3, 1);
        due("52 its own dual", y.traces(0), 1);
        rowDue("52 its own dual", y, 1, 2, 4);
        due("51 its own dual", y.weakly(0), 1);
        rowDue("51 its own dual", y, 0, 1, 2);
        y.copies(0, 1);
        y.moves(1, 0, 2);
        due("52 in another order", y.traces(1), 1);
        FieldBases z = by(283);
        for (int a = 2; a < 30; a++) {
            if (z.makes(1, a, 1) > 0) {
                z.dual(1, 2);
                due("50 of a normal base", z.count(5) & 4, 4);
                for (int i = 0; i < 8; i++) {
                    for (int j = 0; j < 8; j++) {
                        due("50 traces", z.trace(z.product(z.at(1, i), z.at(2, j)), 1), i == j ? 1 : 0);
                    }
                }
                break;
            }
        }
    }

    // 53
    private static void towers() {
        FieldBases x = by(19);
        due("53 2 2", x.tower(3, 2, 2), 4);
        int[] elements = {1, 6, 2, 12};
        for (int i = 0; i < 4; i++) {
            due("53 at " + i, x.at(3, i), elements[i]);
        }
        due("53 dependent", x.tower(3, 2, 6), -2);
        due("53 by nought", x.tower(3, 2, 0), -2);
        due("53 to 4", x.tower(3, 4, 0), 4);
        due("53 plain", x.count(6), 15);
        due("53 to 1", x.tower(3, 1, 4), 4);
        due("53 powers of 4", x.at(3, 2), 3);
        due("53 deeds", x.count(2), 4);
        int[] none = {0, 3, 8, -1, MIN, MAX};
        for (int d : none) {
            due("53 to " + d, x.tower(3, d, 2), -1);
        }
        due("53 no element", x.tower(3, 2, 16), -1);
        due("53 slot 4", x.tower(4, 2, 2), -1);
        due("53 slot -1", x.tower(-1, 2, 6), -1);
    }

    // 54 .. 56
    private static void otherFields() {
        FieldBases x = by(19);
        due("54 7", x.fits(7), 2);
        rowDue("54 7", x, 6, 7);
        due("54 25", x.fits(25), 4);
        rowDue("54 25", x, 9, 11, 13, 14);
        due("54 2", x.fits(2), 1);
        rowDue("54 2", x, 0);
        due("54 3", x.fits(3), 1);
        rowDue("54 3", x, 1);
        due("54 split", x.fits(21), -2);
        due("54 split, of degree 2", x.fits(5), -2);
        int[] none = {11, 13, 9, 1, 0, -1, 283, 37, 256, 512, 65536, MIN, MAX};
        for (int g : none) {
            due("54 " + g, x.fits(g), -1);
        }
        rowDue("54 refused", x, 1);
        due("55 25 9 2", x.maps(25, 9, 2), 9);
        due("55 25 9 3", x.maps(25, 9, 3), 8);
        due("55 25 9 0", x.maps(25, 9, 0), 0);
        due("55 25 9 1", x.maps(25, 9, 1), 1);
        due("55 7 6 3", x.maps(7, 6, 3), 7);
        due("55 2 0 1", x.maps(2, 0, 1), 1);
        due("55 no root", x.maps(25, 2, 2), -2);
        due("55 e 16", x.maps(25, 9, 16), -1);
        due("55 e -1", x.maps(25, 9, -1), -1);
        due("55 e 4 of degree 2", x.maps(7, 6, 4), -1);
        due("55 no root and no e", x.maps(7, 2, 4), -1);
        due("55 r 16", x.maps(25, 16, 2), -1);
        due("55 r -1", x.maps(25, -1, 2), -1);
        due("55 split", x.maps(21, 9, 2), -1);
        due("55 of degree 3", x.maps(11, 9, 2), -1);
        due("55 g 0", x.maps(0, 9, 0), -1);
        due("55 g MIN", x.maps(MIN, 9, 0), -1);
        int[] many = {2, 1, 2, 3, 6, 9, 18, 30};
        int[] least = {2, 7, 11, 19, 37, 67, 131, 283};
        int[] generated = {0, 1, 2, 2, 6, 6, 18, 16};
        for (int n = 1; n <= 8; n++) {
            due("56 " + n, x.irreducibles(n), many[n - 1]);
            rowDue("56 " + n, x, least[n - 1], generated[n - 1]);
        }
        int[] wrongDegrees = {0, -1, 9, MIN, MAX};
        for (int n : wrongDegrees) {
            due("56 " + n, x.irreducibles(n), -1);
        }
        rowDue("56 refused", x, 283, 16);
    }

    // 57
    private static void undone() {
        FieldBases x = new FieldBases();
        due("57 none", x.undo(), -2);
        x.poly(19);
        x.makes(0, 8, 1);
        x.copies(0, 1);
        x.scales(1, 3);
        x.moves(1, 0, 1);
        x.adds(1, 2, 3);
        x.dual(1, 2);
        x.tower(3, 2, 2);
        due("57 deeds", x.count(2), 8);
        x.poly(283);
        due("57 the latest 8", x.count(2), 8);
        x.inverse(7);
        due("57 the field", x.undo(), 7);
        due("57 poly", x.count(1), 19);
        due("57 products again", x.product(3, 7), 9);
        due("57 tower", x.at(3, 1), 6);
        due("57", x.undo(), 6);
        due("57 no tower", x.at(3, 1), 2);
        due("57", x.undo(), 5);
        due("57 no dual", x.at(2, 1), 2);
        due("57", x.undo(), 4);
        due("57", x.undo(), 3);
        due("57 scaled", x.at(1, 0), x.product(8, 3));
        due("57", x.undo(), 2);
        due("57 copied", x.at(1, 0), 8);
        due("57", x.undo(), 1);
        due("57 not copied", x.at(1, 0), 1);
        due("57", x.undo(), 0);
        due("57 not made", x.at(0, 0), 1);
        due("57 the ninth", x.undo(), -2);
        due("57 stays", x.count(1), 19);
        due("57 base is a deed", baseBy(x, 0, "8,4,2,1"), 4);
        due("57 field is a deed", fieldBy(x, "x2+x+1"), 2);
        due("57", x.undo(), 1);
        due("57 base again", x.at(0, 0), 8);
        x.normal(8);
        tells(x, "x3");
        due("57", x.undo(), 0);
        due("57 the text stays", x.count(4), 2);
        rowDue("57 the row stays", x, 4);
        due("57 base undone", x.at(0, 0), 1);
    }

    // 58, 59
    private static void kept() {
        FieldBases x = by(19);
        due("59 nothing kept", x.back(), -2);
        x.makes(2, 8, 1);
        due("58", x.keeps(), 4);
        due("58 is no deed", x.count(2), 2);
        x.poly(283);
        due("59", x.back(), 4);
        due("59 poly", x.count(1), 19);
        due("59 slot", x.at(2, 0), 8);
        due("59 products", x.product(3, 7), 9);
        due("59 is a deed", x.count(2), 4);
        due("57", x.undo(), 3);
        due("57 back undone", x.count(1), 283);
        due("58 in place of what was", x.keeps(), 8);
        x.undo();
        due("57", x.count(1), 19);
        due("58 is not undone", x.back(), 8);
        due("59 again", x.back(), 8);
        due("59 poly", x.count(1), 283);
        FieldBases y = new FieldBases();
        y.keeps();
        y.scales(0, 2);
        y.back();
        y.scales(0, 3);
        due("59 what is kept does not change", y.back(), 2);
        due("59 slot", y.at(0, 0), 1);
    }

    // 60
    private static void written() {
        String[] texts = {"x2+x+1", "x4+x+1", "x8+x4+x3+x+1", "x7+x6+x5+x4+x3+x2+1", "x3+x2+1"};
        FieldBases x = new FieldBases();
        for (String text : texts) {
            fieldBy(x, text);
            due("60 of " + text, x.written(-1), text.length());
            for (int k = 0; k < text.length(); k++) {
                due("60 " + k + " of " + text, x.written(k), text.charAt(k));
            }
            int[] none = {text.length(), -2, 100, MIN, MAX};
            for (int k : none) {
                due("60 " + k + " of " + text, x.written(k), -1);
            }
        }
    }

    // 61, 62
    private static void counted() {
        FieldBases x = by(19);
        x.makes(1, 8, 1);
        x.makes(3, 9, 1);
        x.conjugates(6);
        x.sign(0);
        int[] counts = {4, 19, 3, 2, 4, 10, 5};
        for (int what = 0; what < 7; what++) {
            due("61 " + what, x.count(what), counts[what]);
        }
        x.moves(3, 0, 1);
        due("61 a normal base in its order alone", x.count(5), 2);
        x.moves(0, 0, 1);
        due("61 1, 2, 4, .. in its order alone", x.count(6), 4);
        int[] none = {-1, 7, MIN, MAX};
        for (int what : none) {
            due("61 " + what, x.count(what), -1);
        }
        due("62 0", x.row(0), 6);
        due("62 1", x.row(1), 7);
        int[] outside = {2, -1, 8, 16, MIN, MAX};
        for (int i : outside) {
            due("62 " + i + " throws", rowThrows(x, i), true);
        }
    }

    /** Terms 2: calls that do not tell of the row leave it, and those that do put it anew. */
    private static void rowStays() {
        FieldBases x = by(19);
        x.conjugates(2);
        x.product(2, 3);
        x.makes(0, 8, 1);
        x.scales(1, 3);
        x.moves(1, 0, 1);
        x.adds(1, 0, 1);
        x.copies(0, 2);
        x.tower(3, 2, 2);
        x.complete(8);
        x.trace(2, 1);
        x.log(2, 9);
        x.at(0, 0);
        x.made(0, 3);
        x.table(0, 1, 1);
        x.productIn(0, 3, 5);
        x.maps(7, 6, 3);
        x.keeps();
        x.back();
        x.undo();
        x.written(0);
        x.count(5);
        baseBy(x, 0, "1,2,4,8");
        rowDue("terms 2", x, 2, 4, 3, 5);
        x.poly(283);
        fieldBy(x, "x4+x+1");
        rowDue("terms 2 with another field", x, 2, 4, 3, 5);
    }
}
