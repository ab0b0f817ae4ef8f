import java.util.ArrayList;
import java.util.Arrays;
import java.util.HashSet;
import java.util.List;
import java.util.NoSuchElementException;
import java.util.Set;

/**
 * Each sentence of the document that names a bound, an empty or a full thing, a wrap-around or an order of answers, one by
 * one: the message tells the promise and the sentence. What is refused, argument by argument, stands in RefusalTest.
 */
public final class BoundaryTest {
    private static final int MIN = Integer.MIN_VALUE;
    private static final int MAX = Integer.MAX_VALUE;
    private static final int NONE = -1;
    private static final int[] POLYS = {0, 0, 7, 11, 19, 37, 67, 131, 283};
    private static int wrong = 0;
    private static int compared = 0;
    private static int sentences = 0;
    private static int atLast = 0;
    private static String heading = "";

    public static void main(String[] args) {
        newObject();
        signs();
        ends();
        fieldTexts();
        fieldTextsByTrial();
        polys();
        products();
        inverses();
        powers();
        orders();
        conjugates();
        leastPolynomials();
        traces();
        norms();
        roots();
        squaresAndTogether();
        logs();
        traced();
        factors();
        allOrders();
        quadratics();
        classes();
        generators();
        subfields();
        normal();
        normals();
        complete();
        leastNormal();
        leastPowers();
        types();
        bases();
        basesByTrial();
        makes();
        copies();
        scales();
        moves();
        adds();
        places();
        coordinates();
        changes();
        tables();
        complexities();
        by();
        squares();
        productsIn();
        far();
        steady();
        bestScale();
        same();
        duals();
        weakly();
        ownDuals();
        towers();
        fits();
        maps();
        irreducibles();
        undone();
        kept();
        backs();
        written();
        counts();
        rows();
        manyCalls();
        tried();
        System.out.println("BoundaryTest: " + sentences + " sentences, " + compared + " answers compared, " + wrong + " wrong");
        if (wrong != 0) {
            System.exit(1);
        }
    }

    // ---- how a sentence is told and compared

    private static void sentence(int promise, String words) {
        tried();
        heading = "promise " + promise + " (" + words + "): ";
        sentences++;
    }

    private static void tried() {
        if (sentences > 0 && compared == atLast) {
            wrong++;
            System.out.println(heading + "nothing was tried");
        }
        atLast = compared;
    }

    private static void due(String what, long got, long want) {
        compared++;
        if (got != want) {
            wrong++;
            System.out.println(heading + what + " answered " + got + ", due is " + want);
        }
    }

    private static void holds(String what, boolean is) {
        due(what, is ? 1 : 0, 1);
    }

    private static void rowDue(String what, FieldBases x, long... want) {
        compared++;
        long[] got = rowOf(x);
        if (!Arrays.equals(got, want)) {
            wrong++;
            System.out.println(heading + what + ": the row is " + Arrays.toString(got) + ", due is " + Arrays.toString(want));
        }
    }

    private static long[] rowOf(FieldBases x) {
        long[] row = new long[x.count(3)];
        for (int i = 0; i < row.length; i++) {
            row[i] = x.row(i);
        }
        return row;
    }

    private static boolean rowThrows(FieldBases x, int i) {
        try {
            x.row(i);
            return false;
        } catch (RuntimeException e) {
            return e.getClass() == NoSuchElementException.class;
        }
    }

    private static FieldBases by(int poly) {
        FieldBases x = new FieldBases();
        x.poly(poly);
        return x;
    }

    private static FieldBases ofDegree(int m) {
        return by(POLYS[m]);
    }

    /** The base told as elements; independent they must be. */
    private static FieldBases holding(int poly, int s, int... elements) {
        FieldBases x = by(poly);
        tells(x, joined(elements));
        x.base(s);
        return x;
    }

    private static String joined(int... elements) {
        StringBuilder text = new StringBuilder();
        for (int a : elements) {
            text.append(text.length() == 0 ? "" : ",").append(a);
        }
        return text.toString();
    }

    private static int[] slot(FieldBases x, int s) {
        int[] elements = new int[x.count(0)];
        for (int i = 0; i < elements.length; i++) {
            elements[i] = x.at(s, i);
        }
        return elements;
    }

    private static void slotDue(String what, FieldBases x, int s, int... want) {
        compared++;
        if (!Arrays.equals(slot(x, s), want)) {
            wrong++;
            System.out.println(heading + what + ": slot " + s + " is " + Arrays.toString(slot(x, s)) + ", due is "
                + Arrays.toString(want));
        }
    }

    private static int[] plain(int m) {
        int[] elements = new int[m];
        for (int i = 0; i < m; i++) {
            elements[i] = 1 << i;
        }
        return elements;
    }

    private static void tells(FieldBases x, String text) {
        for (int i = 0; i < text.length(); i += 4) {
            int v = 0;
            for (int k = 0; k < 4; k++) {
                v = v << 8 | (i + k < text.length() ? text.charAt(i + k) : 0);
            }
            x.sign(v);
        }
        x.end(text.length());
    }

    private static int fieldBy(FieldBases x, String text) {
        tells(x, text);
        return x.field();
    }

    private static int baseBy(FieldBases x, int s, String text) {
        tells(x, text);
        return x.base(s);
    }

    private static void badFields(Object... textsAndPlaces) {
        for (int i = 0; i < textsAndPlaces.length; i += 2) {
            FieldBases x = new FieldBases();
            due("field() of '" + textsAndPlaces[i] + "'", fieldBy(x, (String) textsAndPlaces[i]),
                -21 - (Integer) textsAndPlaces[i + 1]);
            due("POLY behind it", x.count(1), 7);
        }
    }

    private static void badBases(int poly, Object... textsAndPlaces) {
        for (int i = 0; i < textsAndPlaces.length; i += 2) {
            FieldBases x = by(poly);
            due("base(0) of '" + textsAndPlaces[i] + "'", baseBy(x, 0, (String) textsAndPlaces[i]),
                -21 - (Integer) textsAndPlaces[i + 1]);
            slotDue("behind it", x, 0, plain(x.count(0)));
        }
    }

    // ---- what the tests reckon by themselves

    private static int degree(int p) {
        return 31 - Integer.numberOfLeadingZeros(p);
    }

    private static int plainProduct(int a, int b) {
        int sum = 0;
        for (int k = 0; k < 10; k++) {
            sum ^= (b >> k & 1) == 0 ? 0 : a << k;
        }
        return sum;
    }

    private static int left(int p, int q) {
        int rest = p;
        while (degree(rest) >= degree(q)) {
            rest ^= q << degree(rest) - degree(q);
        }
        return rest;
    }

    private static int times(int a, int b, int poly) {
        return left(plainProduct(a, b), poly);
    }

    private static boolean isIrreducible(int p) {
        for (int q = 2; q < p; q++) {
            if (degree(q) < degree(p) && left(p, q) == 0) {
                return false;
            }
        }
        return p > 1;
    }

    private static String textOf(int poly) {
        StringBuilder text = new StringBuilder();
        for (int k = degree(poly); k >= 0; k--) {
            if ((poly >> k & 1) == 1) {
                text.append(text.length() == 0 ? "" : "+").append(k == 0 ? "1" : k == 1 ? "x" : "x" + k);
            }
        }
        return text.toString();
    }

    // ---- promise 1

    private static void newObject() {
        FieldBases x = new FieldBases();
        sentence(1, "THE FIELD by 7");
        due("count(0)", x.count(0), 2);
        due("count(1)", x.count(1), 7);
        due("product(2, 2)", x.product(2, 2), 3);
        due("product(4, 1)", x.product(4, 1), NONE);
        sentence(1, "SLOTS hold 1, 2, 4, .. at first");
        for (int s = 0; s < 4; s++) {
            slotDue("a new object", x, s, 1, 2);
        }
        sentence(1, "ROW: at first it has none");
        due("count(3)", x.count(3), 0);
        holds("row(0) throws", rowThrows(x, 0));
        sentence(1, "no TEXT, no DEED, nothing kept at first");
        due("count(4)", x.count(4), 0);
        due("end(1)", x.end(1) ? 1 : 0, 0);
        due("field()", x.field(), -21);
        due("undo()", x.undo(), -2);
        due("back()", x.back(), -2);
        sentence(1, "NONE");
        due("NONE", FieldBases.NONE, -1);
    }

    // ---- promise 2

    private static void signs() {
        sentence(2, "four signs of v the highest byte first");
        FieldBases x = new FieldBases();
        due("sign()", x.sign('x' << 24 | '3' << 16 | '+' << 8 | 'x'), 4);
        due("sign()", x.sign('+' << 24 | '1' << 16 | 'x' << 8 | 'x'), 8);
        due("end(6)", x.end(6) ? 1 : 0, 1);
        due("field()", x.field(), 3);
        sentence(2, "a byte is 0 .. 255: the sign of v takes no part");
        int[] high = {'x' + 128, '3' + 128, '+' + 128, 'x' + 128};
        for (int k = 0; k < 4; k++) {
            int v = 'x' << 24 | '3' << 16 | '+' << 8 | 'x';
            int shift = 24 - 8 * k;
            x.sign(v & ~(255 << shift) | high[k] << shift);
            x.sign('+' << 24 | '1' << 16);
            x.end(6);
            due("field() with a byte of 128 or more at " + k, x.field(), -21 - k);
        }
        x.sign(-1);
        due("field() of 255s", x.field(), -21);
        x.sign(MIN);
        due("field() of 128, 0, 0, 0", x.field(), -21);
        x.sign(0);
        due("base() of noughts that are no digits", x.base(0), -21);
        sentence(2, "how many it has, up to 100");
        FieldBases full = new FieldBases();
        full.sign('x' << 24 | '3' << 16 | '+' << 8 | 'x');
        full.sign('+' << 24 | '1' << 16);
        for (int k = 3; k <= 25; k++) {
            due("sign() " + k, full.sign(k), 4 * k);
        }
        sentence(2, "refused: there would be more than 100");
        due("sign() behind 100", full.sign(0), NONE);
        due("count(4)", full.count(4), 100);
        for (int n = 99; n >= 97; n--) {
            full.end(n);
            due("sign() behind " + n, full.sign(0), NONE);
            due("count(4)", full.count(4), n);
        }
        full.end(96);
        due("sign() behind 96", full.sign(0), 100);
        full.end(6);
        due("field() of what stood ahead", full.field(), 3);
    }

    // ---- promise 3

    private static void ends() {
        FieldBases x = new FieldBases();
        sentence(3, "false if it has not so many, or n is below 0: of none");
        int[] none = {1, 2, 100, 101, MAX, -1, MIN};
        for (int n : none) {
            holds("end(" + n + ") is false", !x.end(n));
        }
        holds("end(0) is true", x.end(0));
        sentence(3, "its first n signs alone");
        tells(x, "x3+x+1+1");
        holds("end(8) of 8", x.end(8));
        due("count(4)", x.count(4), 8);
        holds("end(9) of 8 is false", !x.end(9));
        due("count(4)", x.count(4), 8);
        holds("end(6)", x.end(6));
        holds("what is cut does not come again: end(8) is false", !x.end(8));
        holds("end(7) is false", !x.end(7));
        due("count(4)", x.count(4), 6);
        due("field()", x.field(), 3);
        sentence(3, "signs come behind the end");
        tells(x, "x4+x5");
        x.end(4);
        due("sign()", x.sign('+' << 24 | '1' << 16), 8);
        x.end(6);
        due("field()", x.field(), 4);
        sentence(3, "n 0");
        tells(x, "x4+x+1");
        holds("end(0)", x.end(0));
        due("count(4)", x.count(4), 0);
        due("field()", x.field(), -21);
    }

    // ---- promise 4

    private static void fieldTexts() {
        sentence(4, "the first one of x2 or above");
        badFields("x", 1, "1", 0, "x+1", 1, "1+x", 0, "0", 0, "+", 0, "+x2", 0, "2", 0);
        sentence(4, "N 2 .. 8, a digit");
        badFields("x0", 1, "x1", 1, "x9", 1, "x9+x+1", 1, "x10", 1, "x08", 1, "xx", 1, "x:", 1, "x/", 1);
        badFields("x22", 2, "x8+x33", 5, "x8+x9", 4, "x8+x1", 4, "x8+x0", 4, "x3+x0", 4);
        sentence(4, "with + between");
        badFields("x4x", 2, "x4-x", 2, "x4 +x", 2, "x4++1", 3, "x4+x1", 4, "x4+xx", 4, "x4+x,", 4, "x4,x,1", 2);
        sentence(4, "x, 1: small and no other sign");
        badFields("X4", 0, "y4", 0, " x4", 0, "x4+2", 3, "x4+0", 3, "x4+X", 3, "x4+x+0", 5, "x4+x+2", 5);
        sentence(4, "the digit of a power that is not below the one ahead: it");
        badFields("x4+x4", 4, "x4+x5", 4, "x4+x8", 4, "x8+x8", 4, "x3+x3", 4, "x3+x4+1", 4, "x7+x5+x5+1", 7,
            "x7+x5+x6+1", 7, "x8+x7+x6+x5+x4+x3+x2+x2", 22);
        sentence(4, "where x2 is ahead, what can't stand behind: it");
        badFields("x2+x2", 4, "x2+x3", 4, "x2+x1", 4, "x2+2", 3, "x5+x2+x2", 7, "x3+x2+x4", 7, "x2+xx", 4);
        sentence(4, "where x is ahead, what can't stand behind: it");
        badFields("x2+x+x", 5, "x2+x+x2", 5, "x5+x+x4+1", 5, "x2+x+x+1", 5, "x2+x+2", 5, "x2+x++", 5);
        sentence(4, "where 1 is ahead, what can't stand behind: it");
        badFields("x2+1+", 4, "x2+1+x", 4, "x2+1+1", 4, "x2+11", 4, "x2+1x", 4, "x2+x+1+", 6, "x2+x+1 ", 6, "x2+x+1x", 6,
            "x2+x+10", 6);
        sentence(4, "p is the number of its signs, if it ends too early");
        badFields("", 0, "x", 1, "x2+", 3, "x8+", 3, "x8+x7+", 6, "x2+x+", 5, "x4+x+", 5);
        sentence(4, "p behind a text of 100 signs");
        FieldBases full = new FieldBases();
        tells(full, "x2+x+1" + "+".repeat(94));
        due("signs", full.count(4), 100);
        due("field()", full.field(), -27);
        sentence(4, "-2: it is not IRREDUCIBLE");
        String[] split = {"x2", "x8", "x2+1", "x2+x", "x4+x2+1", "x8+x+1", "x8+x7+x6+x5+x4+x3+x2+x+1", "x3+x2+x+1", "x5+x4+1"};
        for (String text : split) {
            FieldBases x = new FieldBases();
            due("field() of " + text, fieldBy(x, text), -2);
            due("POLY behind it", x.count(1), 7);
            due("DEEDS behind it", x.count(2), 0);
        }
        fieldTextIsEmptied();
    }

    private static void fieldTextIsEmptied() {
        sentence(4, "THE TEXT is emptied, whatever is answered");
        String[] texts = {"x4+x+1", "x4+x4", "x4", "x4+", "1,2"};
        for (String text : texts) {
            FieldBases x = new FieldBases();
            fieldBy(x, text);
            due("signs behind " + text, x.count(4), 0);
            due("field() again", x.field(), -21);
        }
        sentence(4, "whenever THE FIELD is told SLOTS hold 1, 2, 4, ..");
        FieldBases x = by(19);
        for (int s = 0; s < 4; s++) {
            x.makes(s, 8, 1);
        }
        fieldBy(x, "x4+x+1");
        due("count(6)", x.count(6), 15);
        fieldBy(x, "x8+x4+x3+x+1");
        for (int s = 0; s < 4; s++) {
            slotDue("by 283", x, s, 1, 2, 4, 8, 16, 32, 64, 128);
        }
        fieldBy(x, "x2+x+1");
        due("m", x.count(0), 2);
        due("count(6)", x.count(6), 15);
    }

    /** All texts of degrees 2 .. 8, and what becomes of them by one sign more, less or another: by their beginnings. */
    private static void fieldTextsByTrial() {
        Set<String> whole = new HashSet<>();
        Set<String> begun = new HashSet<>();
        for (int n = 4; n < 512; n++) {
            String text = textOf(n);
            whole.add(text);
            for (int k = 0; k <= text.length(); k++) {
                begun.add(text.substring(0, k));
            }
        }
        sentence(4, "every POLYNOMIAL of DEGREE 2 .. 8 as a text");
        for (int n = 4; n < 512; n++) {
            FieldBases x = new FieldBases();
            boolean is = isIrreducible(n);
            due(textOf(n), fieldBy(x, textOf(n)), is ? degree(n) : -2);
            due("POLY", x.count(1), is ? n : 7);
        }
        sentence(4, "-21 - p: the first sign with which no text as told can begin so far");
        for (int n = 4; n < 512; n += 3) {
            for (String text : changed(textOf(n), "x+12789 ")) {
                if (!whole.contains(text)) {
                    int p = 0;
                    while (p < text.length() && begun.contains(text.substring(0, p + 1))) {
                        p++;
                    }
                    due("'" + text + "'", fieldBy(new FieldBases(), text), -21 - p);
                }
            }
        }
    }

    private static List<String> changed(String text, String signs) {
        List<String> all = new ArrayList<>();
        for (int k = 0; k <= text.length(); k++) {
            all.add(text.substring(0, k));
            for (int i = 0; i < signs.length(); i++) {
                all.add(text.substring(0, k) + signs.charAt(i) + text.substring(k));
                all.add(text.substring(0, k) + signs.charAt(i) + text.substring(Math.min(k + 1, text.length())));
            }
        }
        return all;
    }

    // ---- promise 5

    private static void polys() {
        sentence(5, "NONE: its DEGREE is not 2 .. 8: too small");
        int[] small = {0, 1, 2, 3};
        for (int n : small) {
            due("poly(" + n + ")", new FieldBases().poly(n), NONE);
        }
        sentence(5, "NONE: its DEGREE is not 2 .. 8: too large, and no POLYNOMIAL");
        int[] large = {512, 515, 529, 1023, 1033, 65536, 1 << 30, MAX, -1, -2, -7, MIN, MIN | 7, MIN | 283};
        for (int n : large) {
            due("poly(" + n + ")", new FieldBases().poly(n), NONE);
        }
        sentence(5, "-2: it is not IRREDUCIBLE; else m: every DEGREE 2 .. 8");
        for (int n = 4; n < 512; n++) {
            FieldBases x = new FieldBases();
            boolean is = isIrreducible(n);
            due("poly(" + n + ")", x.poly(n), is ? degree(n) : -2);
            due("count(1) behind poly(" + n + ")", x.count(1), is ? n : 7);
            due("count(2) behind poly(" + n + ")", x.count(2), is ? 1 : 0);
        }
        sentence(5, "whenever THE FIELD is told SLOTS hold 1, 2, 4, ..: by the same POLY, too");
        FieldBases x = new FieldBases();
        x.moves(3, 0, 1);
        due("count(6)", x.count(6), 7);
        due("poly(7)", x.poly(7), 2);
        due("count(6)", x.count(6), 15);
        due("DEEDS", x.count(2), 2);
    }

    // ---- promises 6 .. 8

    private static void products() {
        sentence(6, "modulo POLY: all products of the ends");
        for (int m = 2; m <= 8; m++) {
            int last = (1 << m) - 1;
            int[] some = {0, 1, 2, last - 1, last, 1 << m - 1};
            FieldBases x = ofDegree(m);
            for (int a : some) {
                for (int b : some) {
                    due(a + " by " + b + ", m " + m, x.product(a, b), times(a, b, POLYS[m]));
                }
            }
        }
        sentence(6, "all fields of their largest POLY");
        int[] largest = {7, 13, 31, 61, 115, 253, 505};
        for (int poly : largest) {
            FieldBases x = by(poly);
            int last = (1 << degree(poly)) - 1;
            due("largest squared by " + poly, x.product(last, last), times(last, last, poly));
        }
    }

    private static void inverses() {
        sentence(7, "-2: a is 0");
        for (int m = 2; m <= 8; m++) {
            due("inverse(0)", ofDegree(m).inverse(0), -2);
        }
        sentence(7, "all others have one: the least, the greatest");
        for (int m = 2; m <= 8; m++) {
            FieldBases x = ofDegree(m);
            due("inverse(1)", x.inverse(1), 1);
            for (int a = 2; a < 1 << m; a += a < 5 ? 1 : 7) {
                due("a by its inverse", times(a, x.inverse(a), POLYS[m]), 1);
            }
            int last = (1 << m) - 1;
            due("the greatest by its inverse", times(last, x.inverse(last), POLYS[m]), 1);
        }
    }

    private static void powers() {
        sentence(8, "to that of 0: 1");
        for (int m = 2; m <= 8; m++) {
            FieldBases x = ofDegree(m);
            due("power(0, 0)", x.power(0, 0), 1);
            due("power(1, 0)", x.power(1, 0), 1);
            due("power(last, 0)", x.power((1 << m) - 1, 0), 1);
        }
        sentence(8, "n 0 .. 1000000000: 1, and where powers come again");
        for (int m = 2; m <= 8; m++) {
            FieldBases x = ofDegree(m);
            int all = (1 << m) - 1;
            due("power(0, 1)", x.power(0, 1), 0);
            due("power(0, 1000000000)", x.power(0, 1000000000), 0);
            due("power(last, 1)", x.power(all, 1), all);
            due("power(2, all)", x.power(2, all), 1);
            due("power(2, all + 1)", x.power(2, all + 1), 2);
            due("power(2, all - 1)", x.power(2, all - 1), x.inverse(2));
            due("power(3, 1000000000)", x.power(3, 1000000000), x.power(3, 1000000000 % all));
            due("power(3, 999999999)", x.power(3, 999999999), x.power(3, 999999999 % all));
        }
        sentence(8, "NONE: another n, too");
        int[] none = {-1, -2, MIN, 1000000001, MAX};
        for (int n : none) {
            due("power(2, " + n + ")", by(19).power(2, n), NONE);
            due("power(0, " + n + ")", by(19).power(0, n), NONE);
            due("power(1, " + n + ")", by(19).power(1, n), NONE);
        }
        due("power(16, 0)", by(19).power(16, 0), NONE);
    }

    // ---- promises 9 .. 12

    private static void orders() {
        sentence(9, "-2: a is 0; the ROW stays");
        FieldBases x = by(19);
        x.orders();
        due("order(0)", x.order(0), -2);
        due("numbers", x.count(3), 8);
        sentence(9, "the ROW: 1, if it is a GENERATOR, else 0");
        due("order(1)", x.order(1), 1);
        rowDue("order(1)", x, 0);
        due("order(2)", x.order(2), 15);
        rowDue("order(2)", x, 1);
        due("order(8)", x.order(8), 5);
        rowDue("order(8)", x, 0);
        due("order(6)", x.order(6), 3);
        rowDue("order(6)", x, 0);
        FieldBases y = new FieldBases();
        due("order(3) by 7", y.order(3), 3);
        rowDue("order(3) by 7", y, 1);
        due("order(1) by 7", y.order(1), 1);
        rowDue("order(1) by 7", y, 0);
        sentence(9, "the least k above 0");
        for (int m = 2; m <= 8; m++) {
            FieldBases z = ofDegree(m);
            int last = (1 << m) - 1;
            int[] some = {1, 2, 3, last - 1, last};
            for (int a : some) {
                int k = 1;
                for (int c = a; c != 1; c = times(c, a, POLYS[m])) {
                    k++;
                }
                due("order(" + a + ") by m " + m, z.order(a), k);
                rowDue("order(" + a + ") by m " + m, z, k == last ? 1 : 0);
            }
        }
    }

    private static void conjugates() {
        sentence(10, "k 0 .. 100");
        for (int m = 2; m <= 8; m++) {
            FieldBases x = ofDegree(m);
            int last = (1 << m) - 1;
            due("k 0", x.conjugate(last, 0), last);
            due("k 1", x.conjugate(last, 1), times(last, last, POLYS[m]));
            due("k m", x.conjugate(last, m), last);
            due("k m + 1", x.conjugate(last, m + 1), times(last, last, POLYS[m]));
            due("k 100", x.conjugate(last, 100), x.conjugate(last, 100 % m));
            due("k 99", x.conjugate(2, 99), x.conjugate(2, 99 % m));
            due("0", x.conjugate(0, 100), 0);
        }
        sentence(10, "NONE: another k, too");
        int[] none = {-1, MIN, 101, 102, MAX};
        for (int k : none) {
            due("k " + k, by(19).conjugate(2, k), NONE);
            due("k " + k + " of 0", by(19).conjugate(0, k), NONE);
        }
        sentence(11, "SIZE: the least k above 0; the ROW: its unlike CONJUGATES 0, 1, ..");
        for (int m = 2; m <= 8; m++) {
            FieldBases x = ofDegree(m);
            due("of 0", x.conjugates(0), 1);
            rowDue("of 0", x, 0);
            due("of 1", x.conjugates(1), 1);
            rowDue("of 1", x, 1);
            due("of 2", x.conjugates(2), m);
            due("of 2, numbers", x.count(3), m);
            due("of 2, at 0", x.row(0), 2);
            due("of 2, the last one squared", times((int) x.row(m - 1), (int) x.row(m - 1), POLYS[m]), 2);
        }
        FieldBases y = by(67);
        y.subfield(2);
        int a = (int) y.row(1);
        due("of SIZE 2 by m 6", y.conjugates(a), 2);
        rowDue("of SIZE 2 by m 6", y, a, a ^ 1);
        y.subfield(3);
        due("of SIZE 3 by m 6", y.conjugates((int) y.row(1)), 3);
        due("of SIZE 3 by m 6, numbers", y.count(3), 3);
    }

    private static void leastPolynomials() {
        sentence(12, "of least DEGREE, above 0");
        for (int m = 2; m <= 8; m++) {
            FieldBases x = ofDegree(m);
            due("of 0", x.least(0), 2);
            rowDue("of 0", x, 1, 0);
            due("of 1", x.least(1), 3);
            rowDue("of 1", x, 1, 1);
            due("of x", x.least(2), POLYS[m]);
            rowDue("of x", x, m, POLYS[m] >> m - 1 & 1);
        }
        sentence(12, "its DEGREE, 1, if its highest coefficient but one is set, else 0");
        FieldBases y = by(19);
        due("of 6", y.least(6), 7);
        rowDue("of 6", y, 2, 1);
        due("of 8", y.least(8), 31);
        rowDue("of 8", y, 4, 1);
        due("of 9", y.least(9), 25);
        rowDue("of 9", y, 4, 1);
        due("of 3", y.least(3), 19);
        rowDue("of 3", y, 4, 0);
        due("by 505 of x", by(505).least(2), 505);
    }

    // ---- promises 13 .. 18

    private static void traces() {
        sentence(13, "to d that divides m: 1, m, and those between");
        for (int m = 2; m <= 8; m++) {
            for (int d = 1; d <= m; d++) {
                FieldBases x = ofDegree(m);
                int last = (1 << m) - 1;
                int sum = 0;
                for (int k = 0; k < m; k += d) {
                    sum ^= x.conjugate(last, k);
                }
                due("m " + m + ", d " + d, x.trace(last, d), m % d == 0 ? sum : NONE);
                due("0, m " + m + ", d " + d, x.trace(0, d), m % d == 0 ? 0 : NONE);
                due("1, m " + m + ", d " + d, x.trace(1, d), m % d == 0 ? m / d & 1 : NONE);
            }
        }
        sentence(13, "NONE: d that does not divide m");
        int[] none = {0, -1, -2, -4, 3, 5, 8, 12, MIN, MAX};
        for (int d : none) {
            due("d " + d, by(19).trace(0, d), NONE);
            due("d " + d, by(19).trace(8, d), NONE);
        }
    }

    private static void norms() {
        sentence(14, "to d that divides m: 1, m, and those between");
        for (int m = 2; m <= 8; m++) {
            for (int d = 1; d <= m; d++) {
                FieldBases x = ofDegree(m);
                int last = (1 << m) - 1;
                int found = 1;
                for (int k = 0; k < m; k += d) {
                    found = times(found, x.conjugate(last, k), POLYS[m]);
                }
                due("m " + m + ", d " + d, x.norm(last, d), m % d == 0 ? found : NONE);
                due("0, m " + m + ", d " + d, x.norm(0, d), m % d == 0 ? 0 : NONE);
                due("1, m " + m + ", d " + d, x.norm(1, d), m % d == 0 ? 1 : NONE);
            }
        }
        sentence(14, "NONE: d that does not divide m");
        int[] none = {0, -1, -2, -4, 3, 5, 8, 12, MIN, MAX};
        for (int d : none) {
            due("d " + d, by(19).norm(0, d), NONE);
            due("d " + d, by(19).norm(8, d), NONE);
        }
    }

    private static void roots() {
        sentence(15, "the ELEMENT whose square is a: 0, 1, the greatest");
        for (int m = 2; m <= 8; m++) {
            FieldBases x = ofDegree(m);
            int last = (1 << m) - 1;
            due("of 0", x.root(0), 0);
            due("of 1", x.root(1), 1);
            due("of 4", x.root(times(2, 2, POLYS[m])), 2);
            due("of the greatest", times(x.root(last), x.root(last), POLYS[m]), last);
        }
    }

    private static void squaresAndTogether() {
        sentence(16, "the lesser ELEMENT; the ROW: the other one");
        for (int m = 2; m <= 8; m++) {
            FieldBases x = ofDegree(m);
            due("of 0", x.solves(0), 0);
            rowDue("of 0", x, 1);
            int last = (1 << m) - 1;
            int a = times(last, last, POLYS[m]) ^ last;
            due("of the greatest", x.solves(a), last - 1);
            rowDue("of the greatest", x, last);
        }
        sentence(16, "-2: there is none; the ROW stays");
        for (int m = 2; m <= 8; m++) {
            FieldBases x = ofDegree(m);
            for (int a = 0; a < 1 << m && a < 128; a++) {
                if (x.trace(a, 1) == 1) {
                    due("of " + a + " by m " + m, x.solves(a), -2);
                }
            }
            due("numbers", x.count(3), 0);
        }
    }

    private static void logs() {
        sentence(17, "the least n (0 or more)");
        for (int m = 2; m <= 8; m++) {
            FieldBases x = ofDegree(m);
            x.generators();
            int g = (int) x.row(0);
            due("of 1", x.log(g, 1), 0);
            due("of g", x.log(g, g), 1);
            due("of 1 by 1", x.log(1, 1), 0);
            due("of 1 by 0", x.log(0, 1), 0);
            due("of 0 by 0", x.log(0, 0), 1);
            due("the greatest", x.log(g, x.inverse(g)), (1 << m) - 2);
        }
        sentence(17, "-2: there is none");
        FieldBases y = by(19);
        due("of 0 by 2", y.log(2, 0), -2);
        due("of 0 by 1", y.log(1, 0), -2);
        due("of 2 by 0", y.log(0, 2), -2);
        due("of 2 by 1", y.log(1, 2), -2);
        due("of 2 by 6", y.log(6, 2), -2);
        due("of 7 by 6", y.log(6, 7), 2);
        due("of 1 by 6", y.log(6, 1), 0);
        due("of 6 by 8", y.log(8, 6), -2);
    }

    private static void traced() {
        sentence(18, "how many ELEMENTS have the TRACE v to d; the least one");
        for (int m = 2; m <= 8; m++) {
            FieldBases x = ofDegree(m);
            int last = (1 << m) - 1;
            due("to m of the greatest", x.traced(m, last), 1);
            rowDue("to m of the greatest", x, last);
            due("to m of 0", x.traced(m, 0), 1);
            rowDue("to m of 0", x, 0);
            due("to 1 of 0", x.traced(1, 0), 1 << m - 1);
            rowDue("to 1 of 0", x, 0);
            due("to 1 of 1", x.traced(1, 1), 1 << m - 1);
        }
        sentence(18, "the ROW: NONE, where there is none");
        for (int m = 2; m <= 8; m++) {
            FieldBases x = ofDegree(m);
            due("to 1 of 2", x.traced(1, 2), 0);
            rowDue("to 1 of 2", x, -1);
            due("to 1 of the greatest", x.traced(1, (1 << m) - 1), 0);
            rowDue("to 1 of the greatest", x, -1);
        }
        sentence(18, "NONE: v is no ELEMENT, too");
        int[] none = {-1, 16, MIN, MAX};
        for (int v : none) {
            due("v " + v, by(19).traced(1, v), NONE);
            due("v " + v, by(19).traced(4, v), NONE);
        }
        due("d 3", by(19).traced(3, 0), NONE);
        due("d 0", by(19).traced(0, 0), NONE);
    }

    // ---- promises 19 .. 24

    private static void factors() {
        sentence(19, "p 2 .. 1023: all of which p is the product, rising, one as often as it is");
        for (int p = 2; p <= 1023; p++) {
            FieldBases x = new FieldBases();
            int first = x.factors(p);
            long[] row = rowOf(x);
            int product = 1;
            boolean rising = row.length > 0 && row[0] == first;
            for (int i = 0; i < row.length; i++) {
                product = plainProduct(product, (int) row[i]);
                rising &= isIrreducible((int) row[i]) && (i == 0 || row[i] >= row[i - 1]);
            }
            due("the product by " + p, product, p);
            holds("rising and IRREDUCIBLE by " + p, rising);
        }
        sentence(19, "an IRREDUCIBLE p is the only one");
        int[] alone = {2, 3, 7, 283, 529, 1021};
        for (int p : alone) {
            FieldBases x = new FieldBases();
            due("factors(" + p + ")", x.factors(p), isIrreducible(p) ? p : x.row(0));
            due("numbers of " + p, x.count(3) == 1 ? 1 : 0, isIrreducible(p) ? 1 : 0);
        }
        sentence(19, "most: nine of them");
        FieldBases y = new FieldBases();
        due("factors(512)", y.factors(512), 2);
        rowDue("factors(512)", y, 2, 2, 2, 2, 2, 2, 2, 2, 2);
        sentence(19, "NONE: another p; the ROW stays");
        int[] none = {1, 0, -1, -2, MIN, 1024, 1025, MAX};
        for (int p : none) {
            due("factors(" + p + ")", y.factors(p), NONE);
            due("numbers", y.count(3), 9);
        }
    }

    private static void allOrders() {
        sentence(20, "the ROW: they, rising, each followed by how many ELEMENTS have it: fewest and most");
        long[][] want = {{1, 1, 3, 2}, {1, 1, 7, 6}, {1, 1, 3, 2, 5, 4, 15, 8}, {1, 1, 31, 30},
            {1, 1, 3, 2, 7, 6, 9, 6, 21, 12, 63, 36}, {1, 1, 127, 126},
            {1, 1, 3, 2, 5, 4, 15, 8, 17, 16, 51, 32, 85, 64, 255, 128}};
        for (int m = 2; m <= 8; m++) {
            FieldBases x = ofDegree(m);
            due("m " + m, x.orders(), want[m - 2].length / 2);
            rowDue("m " + m, x, want[m - 2]);
        }
    }

    private static void quadratics() {
        sentence(21, "the ROW: they, rising (the first 8)");
        for (int m = 2; m <= 8; m++) {
            FieldBases x = ofDegree(m);
            due("0 0 0 by m " + m, x.quadratic(0, 0, 0), 1 << m);
            rowDue("0 0 0 by m " + m, x, Arrays.copyOf(new long[] {0, 1, 2, 3, 4, 5, 6, 7}, Math.min(8, 1 << m)));
        }
        sentence(21, "no ELEMENT: 0, and a ROW without numbers");
        for (int m = 2; m <= 8; m++) {
            FieldBases x = ofDegree(m);
            due("0 0 1 by m " + m, x.quadratic(0, 0, 1), 0);
            rowDue("0 0 1 by m " + m, x);
            holds("row(0) throws", rowThrows(x, 0));
        }
        FieldBases y = by(19);
        due("1 1 8", y.quadratic(1, 1, 8), 0);
        rowDue("1 1 8", y);
        sentence(21, "a, b or c 0");
        due("1 0 0", y.quadratic(1, 0, 0), 1);
        rowDue("1 0 0", y, 0);
        due("0 1 0", y.quadratic(0, 1, 0), 1);
        rowDue("0 1 0", y, 0);
        due("0 1 15", y.quadratic(0, 1, 15), 1);
        rowDue("0 1 15", y, 15);
        due("1 1 0", y.quadratic(1, 1, 0), 2);
        rowDue("1 1 0", y, 0, 1);
        due("1 0 3", y.quadratic(1, 0, 3), 1);
        rowDue("1 0 3", y, y.root(3));
        due("15 15 15", y.quadratic(15, 15, 15), 2);
        rowDue("15 15 15", y, 6, 7);
    }

    private static void classes() {
        sentence(22, "by SIZES 1 .. m how many ELEMENTS");
        long[][] want = {{2, 2}, {2, 0, 6}, {2, 2, 0, 12}, {2, 0, 0, 0, 30}, {2, 2, 6, 0, 0, 54}, {2, 0, 0, 0, 0, 0, 126},
            {2, 2, 0, 12, 0, 0, 0, 240}};
        int[] many = {3, 4, 6, 8, 14, 20, 36};
        for (int m = 2; m <= 8; m++) {
            FieldBases x = ofDegree(m);
            due("m " + m, x.classes(), many[m - 2]);
            rowDue("m " + m, x, want[m - 2]);
        }
    }

    private static void generators() {
        sentence(23, "how many; the ROW: the least one");
        int[] many = {2, 6, 8, 30, 36, 126, 128};
        int[] first = {2, 2, 2, 2, 2, 2, 3};
        for (int m = 2; m <= 8; m++) {
            FieldBases x = ofDegree(m);
            due("m " + m, x.generators(), many[m - 2]);
            rowDue("m " + m, x, first[m - 2]);
        }
        FieldBases y = by(31);
        due("by 31, of which x is none", y.generators(), 8);
        rowDue("by 31", y, 3);
    }

    private static void subfields() {
        sentence(24, "SUBBASE d: the least ELEMENT that is INDEPENDENT together with those ahead: d 1 and m");
        for (int m = 2; m <= 8; m++) {
            FieldBases x = ofDegree(m);
            due("d 1", x.subfield(1), 2);
            rowDue("d 1", x, 1);
            due("d m", x.subfield(m), 1 << m);
            long[] want = new long[m];
            for (int i = 0; i < m; i++) {
                want[i] = 1L << i;
            }
            rowDue("d m", x, want);
        }
        sentence(24, "those between");
        int[][] between = {{4, 2}, {6, 2}, {6, 3}, {8, 2}, {8, 4}};
        for (int[] one : between) {
            FieldBases x = ofDegree(one[0]);
            due("d " + one[1] + " by m " + one[0], x.subfield(one[1]), 1 << one[1]);
            due("numbers", x.count(3), one[1]);
            long[] row = rowOf(x);
            int sums = 0;
            boolean least = true;
            boolean[] in = new boolean[256];
            in[0] = true;
            for (int a = 1; a < 1 << one[0]; a++) {
                if (x.conjugate(a, one[1]) == a && !in[a]) {
                    least &= sums < row.length && row[sums] == a;
                    for (int b = 0; b < 256; b++) {
                        if (in[b] && !in[b ^ a]) {
                            in[b ^ a] = true;
                        }
                    }
                    sums++;
                }
            }
            holds("one by one the least", least && sums == one[1]);
        }
        sentence(24, "NONE: d that does not divide m");
        int[] none = {0, 3, 5, 6, 7, 9, 16, -1, -8, MIN, MAX};
        for (int d : none) {
            due("d " + d + " by m 8", by(283).subfield(d), NONE);
        }
    }

    // ---- promises 25 .. 30

    private static void normal() {
        sentence(25, "how many of its CONJUGATES are INDEPENDENT at most: none, one, all but one, all");
        for (int m = 2; m <= 8; m++) {
            FieldBases x = ofDegree(m);
            due("of 0", x.normal(0), 0);
            rowDue("of 0", x, 0);
            due("of 1", x.normal(1), 0);
            rowDue("of 1", x, 1);
            x.normals();
            int a = (int) x.row(0);
            due("of the least NORMAL one", x.normal(a), 1);
            rowDue("of the least NORMAL one", x, m);
        }
        FieldBases y = by(19);
        due("of 2", y.normal(2), 0);
        rowDue("of 2", y, 3);
        due("of 6", y.normal(6), 0);
        rowDue("of 6", y, 2);
        due("of 15", y.normal(15), 1);
    }

    private static void normals() {
        sentence(26, "how many; the least one, the least one that is a GENERATOR");
        int[] many = {2, 3, 8, 15, 24, 49, 128};
        for (int m = 2; m <= 8; m++) {
            FieldBases x = ofDegree(m);
            due("m " + m, x.normals(), many[m - 2]);
            due("numbers", x.count(3), 2);
            long first = x.row(0);
            long generator = x.row(1);
            holds("both are told by m " + m, first > 0 && generator >= first);
            for (int a = 0; a <= first; a++) {
                due(a + " by m " + m, x.normal(a), a == first ? 1 : 0);
            }
            FieldBases z = ofDegree(m);
            for (int a = 0; a <= generator; a++) {
                boolean both = z.normal(a) == 1 && z.order(a) == (1 << m) - 1;
                due(a + " both by m " + m, both ? 1 : 0, a == generator ? 1 : 0);
            }
        }
    }

    private static void complete() {
        sentence(27, "d below m: m itself is no bit");
        int[] all = {2, 2, 6, 2, 14, 2, 22};
        for (int m = 2; m <= 8; m++) {
            int bits = 0;
            FieldBases x = ofDegree(m);
            for (int a = 0; a < 1 << m; a++) {
                bits |= x.complete(a);
            }
            due("of all together by m " + m, bits, all[m - 2]);
        }
        sentence(27, "NORMAL over d, not over 1");
        due("2 by 19", by(19).complete(2), 4);
        due("8 by 19", by(19).complete(8), 6);
        sentence(27, "0 and 1 over none (1 over none below m)");
        for (int m = 2; m <= 8; m++) {
            due("of 0", ofDegree(m).complete(0), 0);
            due("of 1", ofDegree(m).complete(1), 0);
        }
        sentence(27, "bit 1 as normal() tells it");
        for (int m = 2; m <= 8; m++) {
            FieldBases x = ofDegree(m);
            for (int a = 0; a < 1 << m && a < 200; a++) {
                due(a + " by m " + m, x.complete(a) >> 1 & 1, x.normal(a));
            }
        }
    }

    private static void leastNormal() {
        sentence(28, "the least COMPLEXITY of all NORMAL BASES; the least ELEMENT with it, of how many ELEMENTS");
        for (int m = 2; m <= 8; m++) {
            FieldBases x = ofDegree(m);
            int least = MAX;
            int first = NONE;
            int many = 0;
            for (int a = 0; a < 1 << m; a++) {
                int bits = x.makes(0, a, 1);
                if (bits >= 0 && bits < least) {
                    least = bits;
                    first = a;
                    many = 0;
                }
                many += bits == least ? 1 : 0;
            }
            due("m " + m, x.leastNormal(), least);
            rowDue("m " + m, x, first, many);
        }
        sentence(28, "m 2: both NORMAL ELEMENTS");
        FieldBases y = new FieldBases();
        due("m 2", y.leastNormal(), 3);
        rowDue("m 2", y, 2, 2);
    }

    private static void leastPowers() {
        sentence(29, "the least WEIGHT of all BASES of powers 0 .. m - 1; the least ELEMENT with it, of how many ELEMENTS");
        for (int m = 2; m <= 8; m++) {
            FieldBases x = ofDegree(m);
            int least = MAX;
            int first = NONE;
            int many = 0;
            for (int a = 0; a < 1 << m && a < 128; a++) {
                if (x.makes(0, a, 0) >= 0) {
                    x.complexity(0);
                    int bits = (int) x.row(0);
                    if (bits < least) {
                        least = bits;
                        first = a;
                        many = 0;
                    }
                    many += bits == least ? 1 : 0;
                }
            }
            FieldBases y = ofDegree(m);
            int answer = y.leastPowers();
            if (m < 8) {
                due("m " + m, answer, least);
                rowDue("m " + m, y, first, many);
            } else {
                holds("m 8 of the lesser half", answer <= least && y.row(0) <= first);
            }
        }
        sentence(29, "m 2: both of them");
        FieldBases z = new FieldBases();
        due("m 2", z.leastPowers(), 4);
        rowDue("m 2", z, 2, 2);
    }

    private static void types() {
        sentence(30, "n 2 .. 100 by trial: bits and ROW");
        for (int n = 2; n <= 100; n++) {
            FieldBases x = new FieldBases();
            int p = unlikePowers(n + 1);
            int q = unlikePowers(2 * n + 1);
            int bits = (p == n ? 1 : 0) | (q == 2 * n || q == n && (2 * n + 1) % 4 == 3 ? 2 : 0);
            due("n " + n, x.types(n), bits);
            rowDue("n " + n, x, p, q);
        }
        sentence(30, "or n, and 2 n + 1 by 4 leaves 3: where it leaves 1");
        due("n 8 (17, 8 unlike ones)", new FieldBases().types(8), 0);
        due("n 3 (7, 3 unlike ones)", new FieldBases().types(3), 2);
        due("n 2, both", new FieldBases().types(2), 3);
        sentence(30, "0, where that is not prime");
        FieldBases y = new FieldBases();
        due("n 7 (8, 15)", y.types(7), 0);
        rowDue("n 7", y, 0, 0);
        due("n 100 (101, 201)", y.types(100), 1);
        rowDue("n 100", y, 100, 0);
        sentence(30, "NONE: another n; the ROW stays");
        int[] none = {1, 0, -1, MIN, 101, 102, MAX};
        for (int n : none) {
            due("n " + n, y.types(n), NONE);
            rowDue("n " + n, y, 100, 0);
        }
    }

    private static int unlikePowers(int p) {
        for (int q = 2; q < p; q++) {
            if (p % q == 0) {
                return 0;
            }
        }
        Set<Integer> unlike = new HashSet<>();
        for (int c = 1; unlike.add(c); c = c * 2 % p) {
            continue;
        }
        return unlike.size();
    }

    // ---- promise 31

    private static void bases() {
        sentence(31, "m ELEMENTS: too few (it ends too early)");
        badBases(19, "", 0, "1", 1, "1,", 2, "1,2", 3, "1,2,4", 5, "1,2,4,", 6, "15", 2);
        badBases(7, "", 0, "1", 1, "1,", 2);
        badBases(283, "1,2,4,8,16,32,64", 16, "1,2,4,8,16,32,64,", 17, "255", 3);
        sentence(31, "m ELEMENTS: too many");
        badBases(19, "1,2,4,8,", 7, "1,2,4,8,1", 7, "1,2,4,8 ", 7);
        badBases(7, "1,2,", 3, "1,2,3", 3);
        badBases(283, "1,2,4,8,16,32,64,128,", 20, "1,2,4,8,16,32,64,128,1", 20);
        sentence(31, "1 to 3 digits");
        badBases(283, "1000", 3, "2550", 3, "1,2551", 5, "1,2,4,8,16,32,64,1280", 20);
        sentence(31, "no nought ahead");
        badBases(19, "01", 1, "00", 1, "000", 1, "1,02", 3, "1,2,4,08", 7, "1,2,4,00", 7);
        badBases(283, "001", 1, "016", 1);
        sentence(31, "a nought alone is an ELEMENT");
        due("0,2,4,8", baseBy(by(19), 0, "0,2,4,8"), -2);
        due("1,2,4,0", baseBy(by(19), 0, "1,2,4,0"), -2);
        due("0,0", baseBy(new FieldBases(), 0, "0,0"), -2);
        sentence(31, "with , between");
        badBases(19, ",1", 0, "1,,2", 2, "1;2", 1, "1 ,2", 1, "1, 2", 2, "1+2", 1, "-1", 0, "+1", 0, " 1", 0, "x", 0, "1,2,4,x", 6,
            "1/", 1, "1:", 1, "/", 0, ":", 0);
        sentence(31, "an ELEMENT there is none of: its last digit");
        badBases(19, "16", 1, "1,16", 3, "1,2,16,8", 5, "1,2,4,16", 7, "99", 1, "100", 2, "160", 2, "999", 2, "1,2,160,8", 6);
        badBases(7, "4", 0, "1,4", 2, "9", 0, "10", 1, "100", 2, "3,3,", 3);
        badBases(283, "256", 2, "260", 2, "300", 2, "999", 2, "255,256", 6);
        badBases(131, "128", 2, "127,128", 6);
        sentence(31, "its last digit comes ahead of what stands behind");
        badBases(19, "16,x", 1, "16x", 1, "1600", 2, "1000", 2);
        sentence(31, "the greatest ELEMENT, and the least");
        due("15,2,4,8", baseBy(by(19), 3, "15,2,4,8"), 7);
        due("255,..", baseBy(by(283), 0, "255,2,4,8,16,32,64,128"), 15);
        due("3,1", baseBy(new FieldBases(), 0, "3,1"), 3);
        baseTextIsEmptied();
    }

    private static void baseTextIsEmptied() {
        sentence(31, "THE TEXT is emptied, whatever is answered");
        String[] texts = {"1,2,4,8", "1,2,3,8", "1,2,16", "1,2", ""};
        for (String text : texts) {
            for (int s = -1; s <= 4; s += 5) {
                FieldBases x = by(19);
                baseBy(x, s, text);
                due("signs behind " + text + " for slot " + s, x.count(4), 0);
                due("base(0) again", x.base(0), -21);
            }
        }
        sentence(31, "-21 - p comes first, then NONE, then -2");
        FieldBases x = by(19);
        due("a wrong text, a wrong slot", baseBy(x, 4, "1,2"), -24);
        due("no text, a wrong slot", baseBy(x, -1, ""), -21);
        due("dependent, a wrong slot", baseBy(x, 4, "1,2,3,8"), NONE);
        due("a wrong slot", baseBy(x, 4, "1,2,4,8"), NONE);
        due("a wrong slot", baseBy(x, -1, "1,2,4,8"), NONE);
        due("DEEDS", x.count(2), 1);
        sentence(31, "-2: they are not INDEPENDENT");
        String[] dependent = {"1,2,3,8", "1,1,4,8", "1,2,4,0", "1,2,4,7", "15,14,1,8", "5,5,5,5"};
        for (String text : dependent) {
            due(text, baseBy(x, 0, text), -2);
            slotDue("behind " + text, x, 0, 1, 2, 4, 8);
        }
        sentence(31, "SLOTS 0 .. 3");
        for (int s = 0; s <= 3; s++) {
            due("slot " + s, baseBy(x, s, "8,4,2,3"), 5);
            slotDue("slot " + s, x, s, 8, 4, 2, 3);
        }
        due("DEEDS", x.count(2), 5);
    }

    /** All texts for the field of 4, and what becomes of them by one sign more, less or another. */
    private static void basesByTrial() {
        sentence(31, "-21 - p: the first sign with which no text as told can begin so far (m 2, 3)");
        for (int m = 2; m <= 3; m++) {
            Set<String> whole = new HashSet<>();
            Set<String> begun = new HashSet<>();
            fillsTexts(whole, "", m, 1 << m);
            for (String text : whole) {
                for (int k = 0; k <= text.length(); k++) {
                    begun.add(text.substring(0, k));
                }
            }
            for (String text : whole) {
                // no digit is put: behind an ELEMENT's digit it may make a number of which the last one is told
                for (String other : changed(text, ",x+ ")) {
                    int p = 0;
                    while (p < other.length() && begun.contains(other.substring(0, p + 1))) {
                        p++;
                    }
                    if (!whole.contains(other)) {
                        int got = baseBy(ofDegree(m), 0, other);
                        due("'" + other + "' by m " + m, got, -21 - lastDigit(other, p));
                    }
                }
            }
        }
    }

    /** Where two digits have come together that make no ELEMENT it is the last one that is told. */
    private static int lastDigit(String text, int p) {
        int last = p;
        boolean number = p > 0 && p < text.length() && Character.isDigit(text.charAt(p))
            && Character.isDigit(text.charAt(p - 1)) && text.charAt(p - 1) != '0';
        while (number && last + 1 < text.length() && Character.isDigit(text.charAt(last + 1)) && last + 1 - p < 2) {
            last++;
        }
        return last;
    }

    private static void fillsTexts(Set<String> into, String begun, int m, int size) {
        if (m == 0) {
            into.add(begun);
            return;
        }
        for (int a = 0; a < size; a++) {
            fillsTexts(into, begun.isEmpty() ? "" + a : begun + "," + a, m - 1, size);
        }
    }

    // ---- promises 32 .. 37

    private static void makes() {
        sentence(32, "way 0: the powers 0 .. m - 1 of a");
        FieldBases x = by(19);
        due("of 2", x.makes(0, 2, 0), 4);
        slotDue("of 2", x, 0, 1, 2, 4, 8);
        due("of 9", x.makes(3, 9, 0) >= 0 ? 1 : 0, 1);
        slotDue("of 9", x, 3, 1, 9, 13, 15);
        sentence(32, "way 1: CONJUGATES 0 .. m - 1 of a");
        due("of 8", x.makes(1, 8, 1), 7);
        slotDue("of 8", x, 1, 8, 12, 15, 10);
        sentence(32, "-2: they are not INDEPENDENT");
        int deeds = x.count(2);
        int[] noPowers = {0, 1, 6, 7};
        for (int a : noPowers) {
            due("powers of " + a, x.makes(1, a, 0), -2);
        }
        int[] noConjugates = {0, 1, 2, 6, 7};
        for (int a : noConjugates) {
            due("conjugates of " + a, x.makes(1, a, 1), -2);
        }
        slotDue("behind them", x, 1, 8, 12, 15, 10);
        due("DEEDS", x.count(2), deeds);
        sentence(32, "NONE: another way, too: ahead of -2");
        int[] none = {-1, 2, 3, MIN, MAX};
        for (int way : none) {
            due("way " + way, x.makes(0, 2, way), NONE);
            due("way " + way + " of 0", x.makes(0, 0, way), NONE);
        }
        due("no SLOT of 0", x.makes(4, 0, 0), NONE);
        sentence(32, "a DEED, even when the same BASE comes of it");
        due("again", x.makes(1, 8, 1), 7);
        due("DEEDS", x.count(2), deeds + 1);
    }

    private static void copies() {
        sentence(33, "1, if it held another one (in another order, too), else 0");
        FieldBases x = by(19);
        due("the same", x.copies(0, 1), 0);
        due("itself", x.copies(2, 2), 0);
        x.moves(0, 2, 3);
        due("another order, at the last PLACES", x.copies(0, 1), 1);
        slotDue("copied", x, 1, 1, 2, 8, 4);
        due("the same now", x.copies(0, 1), 0);
        x.adds(0, 0, 3);
        due("another at PLACE 0", x.copies(0, 3), 1);
        slotDue("copied", x, 3, 5, 2, 8, 4);
        slotDue("from", x, 0, 5, 2, 8, 4);
        sentence(33, "a DEED with the answer 0, too");
        FieldBases y = by(19);
        due("copies(0, 0)", y.copies(0, 0), 0);
        due("DEEDS", y.count(2), 2);
        due("undo()", y.undo(), 1);
        due("m", y.count(0), 4);
        sentence(33, "a copy stands by itself");
        y.copies(0, 1);
        y.scales(0, 2);
        slotDue("the copy", y, 1, 1, 2, 4, 8);
    }

    private static void scales() {
        sentence(34, "each ELEMENT is multiplied by a");
        FieldBases x = by(19);
        due("by 1", x.scales(0, 1), 4);
        slotDue("by 1", x, 0, 1, 2, 4, 8);
        due("a DEED", x.count(2), 2);
        x.scales(0, 2);
        slotDue("by 2", x, 0, 2, 4, 8, 3);
        x.scales(0, 9);
        slotDue("by its inverse", x, 0, 1, 2, 4, 8);
        x.scales(3, 15);
        slotDue("by the greatest", x, 3, 15, 13, 9, 1);
        sentence(34, "-2: a is 0");
        due("by 0", x.scales(0, 0), -2);
        slotDue("by 0", x, 0, 1, 2, 4, 8);
        due("no SLOT by 0", x.scales(4, 0), NONE);
        sentence(34, "COMPLEXITY of it");
        due("by 2", x.scales(2, 2), x.complexity(2));
    }

    private static void moves() {
        sentence(35, "ELEMENTS at PLACES i and j change places: the first and the last");
        for (int m = 2; m <= 8; m++) {
            FieldBases x = ofDegree(m);
            int answer = x.moves(0, 0, m - 1);
            int[] want = plain(m);
            want[0] = 1 << m - 1;
            want[m - 1] = 1;
            slotDue("m " + m, x, 0, want);
            due("m " + m, answer, x.complexity(0));
            x.moves(0, m - 1, 0);
            slotDue("back by m " + m, x, 0, plain(m));
            due("PLACE m", x.moves(0, m, 0), NONE);
            due("PLACE m", x.moves(0, 0, m), NONE);
            due("PLACE -1", x.moves(0, -1, 0), NONE);
        }
        sentence(35, "-2: i is j; NONE ahead of it");
        FieldBases y = by(19);
        for (int i = -1; i <= 4; i++) {
            due("moves(0, " + i + ", " + i + ")", y.moves(0, i, i), i < 0 || i > 3 ? NONE : -2);
            due("moves(4, " + i + ", " + i + ")", y.moves(4, i, i), NONE);
        }
        due("DEEDS", y.count(2), 1);
    }

    private static void adds() {
        sentence(36, "that at PLACE j is added to that at PLACE i: the first and the last");
        for (int m = 2; m <= 8; m++) {
            FieldBases x = ofDegree(m);
            int answer = x.adds(0, 0, m - 1);
            int[] want = plain(m);
            want[0] |= 1 << m - 1;
            slotDue("m " + m, x, 0, want);
            due("m " + m, answer, x.complexity(0));
            x.adds(0, 0, m - 1);
            slotDue("twice by m " + m, x, 0, plain(m));
            x.adds(0, m - 1, 0);
            want = plain(m);
            want[m - 1] |= 1;
            slotDue("the other way by m " + m, x, 0, want);
            due("PLACE m", x.adds(0, m, 0), NONE);
            due("PLACE m", x.adds(0, 0, m), NONE);
            due("PLACE -1", x.adds(0, 0, -1), NONE);
        }
        sentence(36, "-2: i is j; NONE ahead of it");
        FieldBases y = by(19);
        for (int i = -1; i <= 4; i++) {
            due("adds(0, " + i + ", " + i + ")", y.adds(0, i, i), i < 0 || i > 3 ? NONE : -2);
            due("adds(4, " + i + ", " + i + ")", y.adds(4, i, i), NONE);
        }
        due("DEEDS", y.count(2), 1);
    }

    private static void places() {
        sentence(37, "PLACES 0 .. m - 1, SLOTS 0 .. 3");
        for (int m = 2; m <= 8; m++) {
            FieldBases x = ofDegree(m);
            for (int s = -1; s <= 4; s++) {
                for (int i = -1; i <= 9; i++) {
                    boolean is = s >= 0 && s < 4 && i >= 0 && i < m;
                    due("at(" + s + ", " + i + ") by m " + m, x.at(s, i), is ? 1 << i : NONE);
                }
            }
        }
    }

    // ---- promises 38 .. 41

    private static void coordinates() {
        sentence(38, "the set of PLACES (bits): none, one, all");
        for (int m = 2; m <= 8; m++) {
            FieldBases x = ofDegree(m);
            x.normals();
            int a = (int) x.row(0);
            x.makes(1, a, 1);
            due("of 0", x.coordinates(1, 0), 0);
            rowDue("of 0", x, 0);
            due("of the first", x.coordinates(1, a), 1);
            rowDue("of the first", x, 1);
            due("of the last", x.coordinates(1, x.at(1, m - 1)), 1 << m - 1);
            due("of 1, the sum of all", x.coordinates(1, 1), (1 << m) - 1);
            rowDue("of 1", x, m);
            due("of the greatest in 1, 2, 4, ..", x.coordinates(0, (1 << m) - 1), (1 << m) - 1);
        }
        sentence(39, "COORDINATES 0 .. 2^m - 1");
        for (int m = 2; m <= 8; m++) {
            FieldBases x = ofDegree(m);
            x.moves(0, 0, m - 1);
            due("0", x.made(0, 0), 0);
            due("1", x.made(0, 1), 1 << m - 1);
            due("2^m - 1", x.made(0, (1 << m) - 1), (1 << m) - 1);
            due("2^m", x.made(0, 1 << m), NONE);
            due("-1", x.made(0, -1), NONE);
            due("MIN", x.made(0, MIN), NONE);
        }
        sentence(39, "as coordinates() tells them");
        FieldBases y = holding(19, 2, 7, 14, 5, 8);
        for (int bits = 0; bits < 16; bits++) {
            due("bits " + bits, y.coordinates(2, y.made(2, bits)), bits);
        }
    }

    private static void changes() {
        sentence(40, "COORDINATES by SLOT t of all ELEMENTS of SLOT s, PLACE by PLACE");
        FieldBases x = holding(19, 1, 3, 6, 12, 11);
        due("to 1, 2, 4, ..", x.change(1, 0), 9);
        rowDue("to 1, 2, 4, ..", x, 3, 6, 12, 11);
        due("to itself", x.change(1, 1), 4);
        rowDue("to itself", x, 1, 2, 4, 8);
        for (int m = 2; m <= 8; m++) {
            FieldBases y = ofDegree(m);
            due("fewest", y.change(0, 3), m);
            due("numbers", y.count(3), m);
        }
    }

    private static void tables() {
        sentence(41, "COORDINATES of the product of their ELEMENTS at the first and last PLACES");
        for (int m = 2; m <= 8; m++) {
            FieldBases x = ofDegree(m);
            int last = 1 << m - 1;
            due("first, first", x.table(0, 0, 0), 1);
            due("first, last", x.table(0, 0, m - 1), last);
            due("last, first", x.table(0, m - 1, 0), last);
            due("last, last", x.table(0, m - 1, m - 1), times(last, last, POLYS[m]));
            due("PLACE m", x.table(0, m, 0), NONE);
            due("PLACE m", x.table(0, 0, m), NONE);
        }
    }

    // ---- promises 42 .. 49

    private static void complexities() {
        sentence(42, "OPTIMAL: a NORMAL BASE of COMPLEXITY 2 m - 1");
        FieldBases x = by(19);
        x.makes(0, 8, 1);
        due("optimal", x.complexity(0), 7);
        rowDue("optimal", x, 16, 1, 8);
        x.makes(0, 9, 1);
        due("2 m + 1", x.complexity(0), 9);
        due("not optimal", x.row(1), 0);
        due("NORMAL all the same", x.row(2), 9);
        sentence(42, "of COMPLEXITY 2 m - 1, but no NORMAL BASE");
        FieldBases y = by(19);
        boolean found = false;
        for (int i = 0; i < 4 && !found; i++) {
            for (int j = 0; j < 4 && !found; j++) {
                if (i != j && y.adds(1, i, j) == 7) {
                    y.complexity(1);
                    due("not optimal", y.row(1), 0);
                    due("nobody's", y.row(2), NONE);
                    found = true;
                }
            }
        }
        holds("such a BASE was tried", found);
        sentence(42, "some NORMAL ELEMENT's, in its order");
        FieldBases z = by(19);
        z.makes(0, 8, 1);
        z.moves(0, 1, 3);
        due("another order", z.complexity(0), 7);
        rowDue("another order", z, 16, 0, -1);
        sentence(42, "CONJUGATES from another one on are that one's NORMAL BASE");
        due("begun at 12", baseBy(z, 0, "12,15,10,8"), 9);
        z.complexity(0);
        rowDue("begun at 12", z, 16, 1, 12);
        sentence(42, "NONE, where it is no NORMAL BASE");
        for (int m = 2; m <= 8; m++) {
            FieldBases v = ofDegree(m);
            due("1, 2, 4, .. by m " + m, v.complexity(0), m);
            due("optimal", v.row(1), 0);
            due("whose", v.row(2), NONE);
        }
        sentence(42, "COMPLEXITY: of PLACE 0 with all PLACES; WEIGHT: of all PLACES i, j with i not above j");
        for (int m = 2; m <= 8; m++) {
            FieldBases w = ofDegree(m);
            w.scales(1, 3);
            w.moves(1, 0, m - 1);
            w.adds(1, 0, m - 1);
            int first = 0;
            int all = 0;
            for (int j = 0; j < m; j++) {
                for (int i = 0; i <= j; i++) {
                    int bits = Integer.bitCount(w.table(1, i, j));
                    first += i == 0 ? bits : 0;
                    all += bits;
                }
            }
            due("COMPLEXITY by m " + m, w.complexity(1), first);
            due("WEIGHT by m " + m, w.row(0), all);
        }
        sentence(42, "m 2");
        FieldBases u = new FieldBases();
        due("makes", u.makes(0, 2, 1), 3);
        due("complexity", u.complexity(0), 3);
        rowDue("m 2", u, 4, 1, 2);
    }

    private static void by() {
        sentence(43, "COORDINATES, PLACE by PLACE, how many PLACES i of them have bit i set: by 0 and by 1");
        for (int m = 2; m <= 8; m++) {
            FieldBases x = ofDegree(m);
            long[] want = new long[m + 1];
            due("by 0", x.by(0, 0), 0);
            rowDue("by 0", x, want);
            for (int i = 0; i < m; i++) {
                want[i] = 1L << i;
            }
            want[m] = m;
            due("by 1", x.by(0, 1), m);
            rowDue("by 1", x, want);
        }
        FieldBases y = by(19);
        due("by 15", y.by(0, 15), 10);
        rowDue("by 15", y, 15, 13, 9, 1, 1);
    }

    private static void squares() {
        sentence(44, "COORDINATES of the squares, PLACE by PLACE");
        FieldBases x = by(19);
        due("1, 2, 4, ..", x.squares(0), 6);
        rowDue("1, 2, 4, ..", x, 1, 4, 3, 12);
        for (int m = 2; m <= 8; m++) {
            FieldBases y = ofDegree(m);
            y.normals();
            y.makes(3, (int) y.row(0), 1);
            due("of a NORMAL BASE", y.squares(3), m);
            due("the first is the second", y.row(0), 2);
            due("the last is the first", y.row(m - 1), 1);
        }
    }

    private static void productsIn() {
        sentence(45, "both are told by COORDINATES, so is the answer");
        FieldBases x = holding(19, 1, 2, 1, 4, 8);
        due("1 by 1 (x by x)", x.productIn(1, 1, 1), 4);
        due("2 by 1 (1 by x)", x.productIn(1, 2, 1), 1);
        due("8 by 1 (x3 by x: x + 1)", x.productIn(1, 8, 1), 3);
        due("0 by 15", x.productIn(1, 0, 15), 0);
        due("15 by 15", x.productIn(1, 15, 15), x.coordinates(1, times(15, 15, 19)));
        sentence(45, "in SLOT s, whichever SLOT was asked ahead");
        x.squares(0);
        due("1 by 1 in SLOT 1", x.productIn(1, 1, 1), 4);
        x.squares(1);
        due("1 by 1 in SLOT 0", x.productIn(0, 1, 1), 1);
        due("8 by 8 in SLOT 0", x.productIn(0, 8, 8), 12);
    }

    private static void far() {
        sentence(46, "in how many PLACES they differ: none, all");
        for (int m = 2; m <= 8; m++) {
            FieldBases x = ofDegree(m);
            int last = (1 << m) - 1;
            due("alike", x.far(0, last, last), 0);
            rowDue("alike", x, 0, last);
            due("0 and the greatest", x.far(0, 0, last), m);
            rowDue("0 and the greatest", x, last, 0);
        }
        sentence(46, "a and b are ELEMENTS, not COORDINATES");
        FieldBases y = holding(19, 1, 8, 4, 2, 3);
        due("8 and 4", y.far(1, 8, 4), 2);
        rowDue("8 and 4", y, 3, 0);
        due("8 and 12", y.far(1, 8, 12), 1);
        rowDue("8 and 12", y, 2, 1);
    }

    private static void steady() {
        sentence(47, "the least one that has not (NONE): all are steady in a NORMAL BASE");
        for (int m = 2; m <= 8; m++) {
            FieldBases x = ofDegree(m);
            x.normals();
            x.makes(0, (int) x.row(0), 1);
            due("a NORMAL BASE by m " + m, x.steady(0), 1 << m);
            rowDue("a NORMAL BASE by m " + m, x, -1);
        }
        sentence(47, "how many ELEMENTS, 0 and 1 with them");
        FieldBases y = by(19);
        due("1, 2, 4, ..", y.steady(0), 6);
        rowDue("1, 2, 4, ..", y, 4);
        FieldBases z = new FieldBases();
        due("m 2", z.steady(0), 2);
        rowDue("m 2", z, 2);
    }

    private static void bestScale() {
        sentence(48, "c, above 0, of equal ones the least");
        for (int m = 2; m <= 8; m++) {
            FieldBases x = ofDegree(m);
            x.moves(1, 0, m - 1);
            int least = MAX;
            int first = NONE;
            for (int c = 1; c < 1 << m && c < 250; c++) {
                int bits = x.scales(1, c);
                x.undo();
                if (bits < least) {
                    least = bits;
                    first = c;
                }
            }
            FieldBases y = ofDegree(m);
            y.moves(1, 0, m - 1);
            due("m " + m, y.bestScale(1), first);
            rowDue("m " + m, y, least);
            due("it changes nothing", y.at(1, 0), 1 << m - 1);
        }
        sentence(48, "c 1 and the greatest c");
        FieldBases z = by(19);
        due("by 1", z.bestScale(0), 1);
        rowDue("by 1", z, 4);
        z.scales(0, z.inverse(15));
        due("by 15", z.bestScale(0), 15);
        rowDue("by 15", z, 4);
    }

    private static void same() {
        sentence(49, "in some order; in common, at the same PLACE: all, some, none");
        FieldBases x = by(19);
        due("itself", x.same(0, 0), 1);
        rowDue("itself", x, 4, 4);
        x.moves(1, 0, 3);
        x.moves(1, 1, 2);
        due("all elsewhere", x.same(0, 1), 1);
        rowDue("all elsewhere", x, 4, 0);
        baseBy(x, 2, "3,6,12,11");
        due("none", x.same(0, 2), 0);
        rowDue("none", x, 0, 0);
        baseBy(x, 3, "1,4,3,8");
        due("three, two of them there", x.same(0, 3), 0);
        rowDue("three, two of them there", x, 3, 2);
        due("the other way", x.same(3, 0), 0);
        rowDue("the other way", x, 3, 2);
    }

    // ---- promises 50 .. 56

    private static void duals() {
        sentence(50, "TRACE of b at i times d at j is 1, if i is j, else 0");
        for (int m = 2; m <= 8; m++) {
            FieldBases x = ofDegree(m);
            int answer = x.dual(0, 3);
            due("numbers", x.count(3), m);
            long[] row = rowOf(x);
            due("COMPLEXITY", answer, x.complexity(3));
            for (int i = 0; i < m; i++) {
                due("the ROW", row[i], x.at(3, i));
                for (int j = 0; j < m; j++) {
                    due("TRACE", x.trace(x.product(x.at(0, i), x.at(3, j)), 1), i == j ? 1 : 0);
                }
            }
        }
        sentence(50, "SLOT t may be SLOT s");
        FieldBases y = by(19);
        due("dual(0, 0)", y.dual(0, 0), 5);
        slotDue("dual(0, 0)", y, 0, 9, 4, 2, 1);
        due("back", y.dual(0, 0), 4);
        slotDue("back", y, 0, 1, 2, 4, 8);
        due("DEEDS", y.count(2), 3);
        slotDue("other SLOTS stay", y, 1, 1, 2, 4, 8);
    }

    private static void weakly() {
        sentence(51, "the least ELEMENT c, above 0; for each PLACE of the DUAL the PLACE at which that product stands");
        FieldBases x = by(19);
        due("1, 2, 4, ..", x.weakly(0), 2);
        rowDue("1, 2, 4, ..", x, 0, 3, 2, 1);
        x.moves(0, 0, 1);
        due("2, 1, 4, ..", x.weakly(0), 2);
        rowDue("2, 1, 4, ..", x, 3, 1, 2, 0);
        sentence(51, "-2: there is none; the ROW stays");
        x.makes(1, 8, 1);
        due("a NORMAL BASE without", x.weakly(1), -2);
        rowDue("it", x, 3, 1, 2, 0);
        sentence(51, "its own DUAL: by 1");
        FieldBases y = by(11);
        y.makes(0, 3, 1);
        due("by 1", y.weakly(0), 1);
        rowDue("by 1", y, 0, 1, 2);
    }

    private static void ownDuals() {
        sentence(52, "1, if it is its own DUAL, else 0");
        FieldBases x = by(11);
        x.makes(0, 3, 1);
        due("own", x.traces(0), 1);
        rowDue("own", x, 1, 2, 4);
        x.moves(0, 0, 2);
        due("own in another order", x.traces(0), 1);
        rowDue("own in another order", x, 1, 2, 4);
        due("not own", x.traces(1), 0);
        rowDue("not own", x, 1, 4, 2);
        FieldBases y = new FieldBases();
        y.makes(2, 2, 1);
        due("m 2", y.traces(2), 1);
        rowDue("m 2", y, 1, 2);
        due("m 2", y.traces(0), 0);
        rowDue("m 2", y, 2, 3);
    }

    private static void towers() {
        sentence(53, "powers 0, 1, .. m / d - 1 of a, all of SUBBASE d by power 0 first: d 1, m, between");
        FieldBases x = by(19);
        due("d 1", x.tower(0, 1, 4), x.complexity(0));
        slotDue("d 1", x, 0, 1, 4, 3, 12);
        due("d 2", x.tower(0, 2, 2), 4);
        slotDue("d 2", x, 0, 1, 6, 2, 12);
        due("d 4", x.tower(0, 4, 9), 4);
        slotDue("d 4", x, 0, 1, 2, 4, 8);
        sentence(53, "to m power 0 stands alone: any a, 0 and 1 with it");
        for (int m = 2; m <= 8; m++) {
            FieldBases y = ofDegree(m);
            y.moves(2, 0, 1);
            due("of 0", y.tower(2, m, 0), m);
            slotDue("of 0", y, 2, plain(m));
            due("of 1", y.tower(2, m, 1), m);
            due("DEEDS", y.count(2), 4);
        }
        sentence(53, "-2: they are not INDEPENDENT");
        due("d 2 of 0", x.tower(0, 2, 0), -2);
        due("d 2 of 1", x.tower(0, 2, 1), -2);
        due("d 2 of 6", x.tower(0, 2, 6), -2);
        due("d 1 of 7", x.tower(0, 1, 7), -2);
        slotDue("behind them", x, 0, 1, 2, 4, 8);
        sentence(53, "NONE ahead of -2");
        due("no SLOT of 0", x.tower(4, 2, 0), NONE);
        due("d 3 of 0", x.tower(0, 3, 0), NONE);
        due("d 0 of 0", x.tower(0, 0, 0), NONE);
    }

    private static void fits() {
        sentence(54, "how many roots; they, rising: DEGREE 1, m, between");
        FieldBases x = by(19);
        due("x", x.fits(2), 1);
        rowDue("x", x, 0);
        due("x+1", x.fits(3), 1);
        rowDue("x+1", x, 1);
        due("x2+x+1", x.fits(7), 2);
        rowDue("x2+x+1", x, 6, 7);
        due("31", x.fits(31), 4);
        rowDue("31", x, 8, 10, 12, 15);
        for (int m = 2; m <= 8; m++) {
            FieldBases y = ofDegree(m);
            due("POLY itself", y.fits(POLYS[m]), m);
            due("its least root", y.row(0), 2);
        }
        sentence(54, "-2: it is not IRREDUCIBLE");
        int[] split = {4, 5, 6, 16, 17, 18, 21, 30};
        for (int g : split) {
            due("g " + g, x.fits(g), -2);
        }
        sentence(54, "NONE: its DEGREE does not divide m: ahead of -2");
        int[] none = {0, 1, 8, 9, 11, 13, 15, 32, 37, 64, 128, 256, 283, 512, 1 << 16, -1, -7, MIN, MAX};
        for (int g : none) {
            due("g " + g, x.fits(g), NONE);
        }
        due("DEGREE 16 by m 8", by(283).fits(1 << 16), NONE);
    }

    private static void maps() {
        sentence(55, "e 0 .. 2^n - 1 as a POLYNOMIAL of r");
        FieldBases x = by(19);
        int[] by25 = {0, 1, 9, 8};
        for (int e = 0; e < 4; e++) {
            due("e " + e, x.maps(25, 9, e), by25[e]);
        }
        due("e 15", x.maps(25, 9, 15), 1 ^ 9 ^ x.power(9, 2) ^ x.power(9, 3));
        due("e 16", x.maps(25, 9, 16), NONE);
        due("e 3 of DEGREE 2", x.maps(7, 7, 3), 6);
        due("e 4 of DEGREE 2", x.maps(7, 7, 4), NONE);
        due("e 1 of DEGREE 1", x.maps(3, 1, 1), 1);
        due("e 0 of DEGREE 1", x.maps(3, 1, 0), 0);
        due("e 2 of DEGREE 1", x.maps(3, 1, 2), NONE);
        due("e -1", x.maps(25, 9, -1), NONE);
        sentence(55, "-2: r is no root of g");
        due("r 2", x.maps(25, 2, 3), -2);
        due("r 0", x.maps(25, 0, 0), -2);
        due("r 1 of x", x.maps(2, 1, 0), -2);
        due("r 0 of x", x.maps(2, 0, 1), 1);
        sentence(55, "NONE: g as in fits(), or not IRREDUCIBLE, e, r none such: ahead of -2");
        due("g 21, which is split", x.maps(21, 6, 0), NONE);
        due("g 5, which is split", x.maps(5, 1, 0), NONE);
        due("g 11 of DEGREE 3", x.maps(11, 2, 0), NONE);
        due("g 1", x.maps(1, 0, 0), NONE);
        due("g 0", x.maps(0, 0, 0), NONE);
        due("g MIN", x.maps(MIN, 0, 0), NONE);
        due("r 16", x.maps(25, 16, 0), NONE);
        due("r -1", x.maps(25, -1, 0), NONE);
        due("r no root, e 16", x.maps(25, 2, 16), NONE);
        due("r no root, e MIN", x.maps(25, 2, MIN), NONE);
    }

    private static void irreducibles() {
        sentence(56, "n 1 .. 8; n 1: 0");
        int[] many = {2, 1, 2, 3, 6, 9, 18, 30};
        int[] generated = {0, 1, 2, 2, 6, 6, 18, 16};
        FieldBases x = by(19);
        for (int n = 1; n <= 8; n++) {
            due("n " + n, x.irreducibles(n), many[n - 1]);
            rowDue("n " + n, x, new int[] {2, 7, 11, 19, 37, 67, 131, 283}[n - 1], generated[n - 1]);
        }
        sentence(56, "NONE: another n; the ROW stays");
        int[] none = {0, -1, 9, 10, 31, 32, 33, MIN, MAX};
        for (int n : none) {
            due("n " + n, x.irreducibles(n), NONE);
            rowDue("n " + n, x, 283, 16);
        }
    }

    // ---- promises 57 .. 59

    private static void undone() {
        sentence(57, "-2: none can");
        FieldBases x = new FieldBases();
        due("a new object", x.undo(), -2);
        sentence(57, "the latest 8 can be undone: the ninth can't");
        for (int k = 1; k <= 20; k++) {
            x.moves(0, 0, 1);
            due("DEEDS", x.count(2), Math.min(k, 8));
        }
        x.adds(0, 0, 1);
        for (int k = 7; k >= 0; k--) {
            due("undo()", x.undo(), k);
            due("DEEDS", x.count(2), k);
        }
        due("undo() of the ninth", x.undo(), -2);
        slotDue("13 moves stay", x, 0, 2, 1);
        sentence(57, "behind undo() DEEDS count anew");
        x.moves(0, 0, 1);
        due("DEEDS", x.count(2), 1);
        due("undo()", x.undo(), 0);
        slotDue("13 moves stay", x, 0, 2, 1);
        due("undo()", x.undo(), -2);
        eachDeed();
        sentence(57, "undone are THE FIELD and all SLOTS with it");
        FieldBases y = by(19);
        y.makes(3, 8, 1);
        y.poly(11);
        due("undo()", y.undo(), 2);
        due("POLY", y.count(1), 19);
        due("product(3, 7)", y.product(3, 7), 9);
        slotDue("SLOT 3", y, 3, 8, 12, 15, 10);
        due("undo()", y.undo(), 1);
        slotDue("SLOT 3", y, 3, 1, 2, 4, 8);
        due("undo()", y.undo(), 0);
        due("POLY", y.count(1), 7);
        due("product(2, 2)", y.product(2, 2), 3);
        due("product(4, 1)", y.product(4, 1), NONE);
    }

    private static void eachDeed() {
        sentence(57, "field(), poly(), base(), makes(), copies(), scales(), moves(), adds(), dual(), tower(), back() are DEEDS");
        FieldBases x = new FieldBases();
        x.keeps();
        due("keeps() is none", x.count(2), 0);
        fieldBy(x, "x4+x+1");
        due("field()", x.count(2), 1);
        x.poly(25);
        due("poly()", x.count(2), 2);
        baseBy(x, 0, "2,1,4,8");
        due("base()", x.count(2), 3);
        x.makes(1, 3, 0);
        due("makes()", x.count(2), 4);
        x.copies(0, 2);
        due("copies()", x.count(2), 5);
        x.scales(2, 3);
        due("scales()", x.count(2), 6);
        x.moves(2, 0, 1);
        due("moves()", x.count(2), 7);
        x.adds(2, 0, 1);
        due("adds()", x.count(2), 8);
        int[] added = slot(x, 2);
        x.dual(0, 3);
        int[] dual = slot(x, 3);
        x.tower(3, 4, 0);
        x.back();
        due("POLY as kept", x.count(1), 7);
        due("back()", x.undo(), 7);
        slotDue("behind tower()", x, 3, 1, 2, 4, 8);
        due("tower()", x.undo(), 6);
        slotDue("behind dual()", x, 3, dual);
        due("dual()", x.undo(), 5);
        slotDue("ahead of dual()", x, 3, 1, 2, 4, 8);
        slotDue("behind adds()", x, 2, added);
        due("adds()", x.undo(), 4);
        slotDue("ahead of adds()", x, 2, added[0] ^ added[1], added[1], added[2], added[3]);
        due("moves()", x.undo(), 3);
        slotDue("ahead of moves()", x, 2, added[1], added[0] ^ added[1], added[2], added[3]);
        due("scales()", x.undo(), 2);
        slotDue("ahead of scales()", x, 2, 2, 1, 4, 8);
        due("copies()", x.undo(), 1);
        slotDue("ahead of copies()", x, 2, 1, 2, 4, 8);
        due("makes()", x.undo(), 0);
        slotDue("ahead of makes()", x, 1, 1, 2, 4, 8);
        slotDue("base() stays", x, 0, 2, 1, 4, 8);
        due("base() was the ninth", x.undo(), -2);
        sentence(57, "refused calls and answers of -2 are no DEEDS");
        x.moves(0, 0, 0);
        x.scales(0, 0);
        x.makes(0, 0, 0);
        x.poly(5);
        x.tower(0, 3, 1);
        x.copies(0, 4);
        due("DEEDS", x.count(2), 0);
    }

    private static void kept() {
        sentence(58, "THE FIELD and all SLOTS are kept: m");
        for (int m = 2; m <= 8; m++) {
            FieldBases x = ofDegree(m);
            due("m " + m, x.keeps(), m);
        }
        sentence(58, "in place of what was");
        FieldBases y = by(19);
        y.keeps();
        y.makes(0, 8, 1);
        y.keeps();
        y.poly(11);
        due("back()", y.back(), 4);
        slotDue("the later one", y, 0, 8, 12, 15, 10);
        y.back();
        slotDue("again", y, 0, 8, 12, 15, 10);
        sentence(58, "keeps() is no DEED, and undo() does not reach what is kept");
        FieldBases z = by(19);
        z.moves(0, 0, 1);
        z.keeps();
        due("DEEDS", z.count(2), 2);
        z.undo();
        z.undo();
        due("POLY", z.count(1), 7);
        due("back()", z.back(), 4);
        slotDue("as kept", z, 0, 2, 1, 4, 8);
    }

    private static void backs() {
        sentence(59, "-2: nothing is kept");
        FieldBases x = by(19);
        x.makes(0, 8, 1);
        due("back()", x.back(), -2);
        due("DEEDS", x.count(2), 2);
        sentence(59, "as a DEED: m");
        x.keeps();
        due("back() at once", x.back(), 4);
        due("DEEDS", x.count(2), 3);
        x.poly(283);
        due("back()", x.back(), 4);
        due("DEEDS", x.count(2), 5);
        slotDue("as kept", x, 0, 8, 12, 15, 10);
        due("undo()", x.undo(), 4);
        due("POLY", x.count(1), 283);
        due("product", x.product(0x57, 0x83), 0xC1);
        sentence(59, "what is kept does not change with the SLOTS");
        x.back();
        x.scales(0, 2);
        x.adds(1, 0, 1);
        due("back()", x.back(), 4);
        slotDue("as kept", x, 0, 8, 12, 15, 10);
        slotDue("as kept", x, 1, 1, 2, 4, 8);
    }

    // ---- promises 60 .. 62

    private static void written() {
        sentence(60, "sign k of POLY, written as field() reads it; k NONE: how many signs");
        for (int n = 4; n < 512; n++) {
            if (isIrreducible(n)) {
                FieldBases x = by(n);
                String text = textOf(n);
                due("signs of " + text, x.written(-1), text.length());
                for (int k = 0; k < text.length(); k++) {
                    due("sign " + k + " of " + text, x.written(k), text.charAt(k));
                }
            }
        }
        sentence(60, "NONE: no such sign: the first behind the last, below NONE");
        int[] polys = {7, 19, 283, 505};
        for (int poly : polys) {
            FieldBases x = by(poly);
            int[] none = {textOf(poly).length(), textOf(poly).length() + 1, -2, MIN, MAX};
            for (int k : none) {
                due("sign " + k + " of " + poly, x.written(k), NONE);
            }
        }
        sentence(60, "behind a longer POLY");
        FieldBases y = by(505);
        y.written(-1);
        y.poly(7);
        due("signs", y.written(-1), 6);
        due("sign 6", y.written(6), NONE);
    }

    private static void counts() {
        sentence(61, "0: m, 1: POLY");
        for (int m = 2; m <= 8; m++) {
            due("m", ofDegree(m).count(0), m);
            due("POLY", ofDegree(m).count(1), POLYS[m]);
        }
        sentence(61, "3: numbers of the ROW: 0 to 16");
        FieldBases x = by(283);
        due("none", x.count(3), 0);
        x.orders();
        due("most", x.count(3), 16);
        x.quadratic(0, 0, 1);
        due("none again", x.count(3), 0);
        sentence(61, "4: signs of THE TEXT: 0 to 100");
        due("none", x.count(4), 0);
        for (int k = 0; k < 30; k++) {
            x.sign(k);
        }
        due("most", x.count(4), 100);
        sentence(61, "5: SLOTS whose BASE is a NORMAL BASE (bits): none, all, in its order");
        FieldBases y = by(19);
        due("none", y.count(5), 0);
        for (int s = 0; s < 4; s++) {
            y.makes(s, 8, 1);
        }
        due("all", y.count(5), 15);
        y.moves(1, 0, 1);
        due("in its order", y.count(5), 13);
        sentence(61, "6: SLOTS that hold 1, 2, 4, .. (bits): all, none, in this order");
        FieldBases z = by(19);
        due("all", z.count(6), 15);
        z.moves(2, 2, 3);
        due("in this order", z.count(6), 11);
        z.adds(0, 3, 0);
        z.scales(1, 2);
        z.dual(3, 3);
        due("none", z.count(6), 0);
        due("NORMAL ones", z.count(5), 0);
        sentence(61, "6: the first PLACE and the last one count, by each m");
        for (int m = 2; m <= 8; m++) {
            FieldBases v = ofDegree(m);
            due("all by m " + m, v.count(6), 15);
            v.adds(0, 0, m - 1);
            v.adds(1, m - 1, 0);
            due("the first, the last by m " + m, v.count(6), 12);
        }
        sentence(61, "NONE for another what");
        int[] none = {-1, -2, 7, 8, MIN, MAX};
        for (int what : none) {
            due("count(" + what + ")", z.count(what), NONE);
        }
    }

    private static void rows() {
        sentence(62, "NoSuchElementException: none such");
        FieldBases x = by(283);
        int[] never = {0, 1, -1, 15, 16, MIN, MAX};
        for (int i : never) {
            holds("row(" + i + ") of none throws", rowThrows(x, i));
        }
        x.orders();
        due("row(0)", x.row(0), 1);
        due("row(15)", x.row(15), 128);
        int[] outside = {16, 17, -1, -16, MIN, MAX};
        for (int i : outside) {
            holds("row(" + i + ") of 16 throws", rowThrows(x, i));
        }
        x.order(3);
        due("row(0)", x.row(0), 1);
        holds("row(1) of 1 throws", rowThrows(x, 1));
        due("the ROW stays", x.count(3), 1);
    }

    /** An object is used for at most 512 calls: the last one answers as the first. */
    private static void manyCalls() {
        sentence(1, "at most 512 calls");
        FieldBases x = by(283);
        for (int k = 2; k <= 510; k++) {
            due("call " + k, x.scales(0, 3) > 0 ? 1 : 0, 1);
        }
        due("call 511", x.count(2), 8);
        due("call 512", x.undo(), 7);
    }
}
