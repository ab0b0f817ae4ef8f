import java.util.ArrayList;
import java.util.Arrays;
import java.util.List;

/**
 * The rules of ROW, TEXT, refusal and DEEDS that belong to every promise: each argument of each call just outside its
 * bounds (refused, and a twin that was never asked stays alike to the last undo) and just inside them (not refused).
 */
public final class RefusalTest {
    private static final int MIN = Integer.MIN_VALUE;
    private static final int MAX = Integer.MAX_VALUE;
    private static final int NONE = FieldBases.NONE;
    private static final int[] POLYS = {0, 0, 7, 11, 19, 37, 67, 131, 283};
    private static final int CARRIED = 0x78332B78;
    private static final int REST = 0x2B310000;
    private static int wrong = 0;
    private static int compared = 0;

    private interface Maker {
        FieldBases made();
    }

    private interface Call {
        int of(FieldBases x);
    }

    private interface CallBy {
        int of(FieldBases x, int v);
    }

    public static void main(String[] args) {
        for (int m = 2; m <= 8; m++) {
            elements(m);
            slots(m);
            places(m);
            subfields(m);
            othersByField(m);
            notSo(m);
            noneFirst(m);
            askingChangesNothing(m);
            rowStays(m);
            rowIsTold(m);
        }
        ranges();
        texts();
        neverBegun();
        System.out.println("RefusalTest: " + compared + " answers compared, " + wrong + " wrong");
        if (wrong != 0) {
            System.exit(1);
        }
    }

    private static void due(int promise, String what, long got, long want) {
        compared++;
        if (got != want) {
            wrong++;
            System.out.println("promise " + promise + ": " + what + " answered " + got + ", due is " + want);
        }
    }

    private static void alike(int promise, String what, List<Long> got, List<Long> want) {
        compared++;
        if (!got.equals(want)) {
            wrong++;
            System.out.println("promise " + promise + ": " + what + " left\n  " + got + ", due is\n  " + want);
        }
    }

    // ---- objects, and all that can be seen of them

    /** An object with a ROW of two or more, a TEXT of two signs, all eight deeds, something kept, unlike slots. */
    private static FieldBases busy(int m) {
        FieldBases x = new FieldBases();
        x.poly(m == 2 ? 11 : 7);
        x.moves(0, 0, 1);
        x.keeps();
        x.poly(POLYS[m]);
        x.moves(1, 0, 1);
        x.adds(2, 1, 0);
        x.scales(3, 2);
        x.copies(1, 0);
        x.adds(0, 0, 1);
        x.moves(2, 1, 0);
        x.conjugates(2);
        x.sign(CARRIED);
        x.end(2);
        return x;
    }

    /** What an object shows, and what it goes on to show as its deeds are undone: it is used up by this. */
    private static List<Long> shown(FieldBases x) {
        List<Long> all = new ArrayList<>();
        for (int what = 0; what <= 6; what++) {
            all.add((long) x.count(what));
        }
        all.addAll(rowOf(x));
        for (int k = x.written(NONE) - 1; k >= 0; k--) {
            all.add((long) x.written(k));
        }
        addsField(all, x);
        for (int k = 0; k < 9; k++) {
            all.add((long) x.undo());
            addsField(all, x);
        }
        all.add((long) x.back());
        addsField(all, x);
        x.sign(0x2B782B31);
        all.add((long) x.field());
        return all;
    }

    private static void addsField(List<Long> all, FieldBases x) {
        // few calls: no object is asked more than 512 times
        int m = x.count(0);
        all.add((long) x.count(1));
        all.add((long) x.product(2, 3));
        for (int s = 0; s < 4; s++) {
            for (int i = 0; i < m; i++) {
                all.add((long) x.at(s, i));
            }
        }
    }

    private static void unchanged(int promise, String what, Maker maker, int want, Call call) {
        FieldBases x = maker.made();
        due(promise, what, call.of(x), want);
        alike(promise, what, shown(x), shown(maker.made()));
    }

    private static void refused(int m, int promise, String what, int v, CallBy call) {
        unchanged(promise, what.replace("v", "" + v) + " by m " + m, () -> busy(m), NONE, x -> call.of(x, v));
    }

    private static void notRefused(int m, int promise, String what, int v, CallBy call) {
        int got = call.of(busy(m), v);
        due(promise, what.replace("v", "" + v) + " by m " + m + " is refused", got == NONE ? 1 : 0, 0);
    }

    private static void between(int m, int promise, String what, int least, int most, CallBy call) {
        int[] outside = {least - 1, least - 2, most + 1, most + 2, MIN, MIN + 1, MAX - 1, MAX};
        for (int v : outside) {
            if (v < least || v > most) {
                refused(m, promise, what, v, call);
            }
        }
        notRefused(m, promise, what, least, call);
        notRefused(m, promise, what, most, call);
    }

    // ---- arguments by their kind

    private static void elements(int m) {
        Object[][] calls = {
            {6, "product(v, 1)", (CallBy) (x, v) -> x.product(v, 1)},
            {6, "product(0, v)", (CallBy) (x, v) -> x.product(0, v)},
            {7, "inverse(v)", (CallBy) (x, v) -> x.inverse(v)},
            {8, "power(v, 0)", (CallBy) (x, v) -> x.power(v, 0)},
            {9, "order(v)", (CallBy) (x, v) -> x.order(v)},
            {10, "conjugate(v, 0)", (CallBy) (x, v) -> x.conjugate(v, 0)},
            {11, "conjugates(v)", (CallBy) (x, v) -> x.conjugates(v)},
            {12, "least(v)", (CallBy) (x, v) -> x.least(v)},
            {13, "trace(v, 1)", (CallBy) (x, v) -> x.trace(v, 1)},
            {14, "norm(v, 1)", (CallBy) (x, v) -> x.norm(v, 1)},
            {15, "root(v)", (CallBy) (x, v) -> x.root(v)},
            {16, "solves(v)", (CallBy) (x, v) -> x.solves(v)},
            {17, "log(v, 1)", (CallBy) (x, v) -> x.log(v, 1)},
            {17, "log(2, v)", (CallBy) (x, v) -> x.log(2, v)},
            {18, "traced(1, v)", (CallBy) (x, v) -> x.traced(1, v)},
            {21, "quadratic(v, 0, 0)", (CallBy) (x, v) -> x.quadratic(v, 0, 0)},
            {21, "quadratic(0, v, 0)", (CallBy) (x, v) -> x.quadratic(0, v, 0)},
            {21, "quadratic(0, 0, v)", (CallBy) (x, v) -> x.quadratic(0, 0, v)},
            {25, "normal(v)", (CallBy) (x, v) -> x.normal(v)},
            {27, "complete(v)", (CallBy) (x, v) -> x.complete(v)},
            {32, "makes(0, v, 0)", (CallBy) (x, v) -> x.makes(0, v, 0)},
            {32, "makes(0, v, 1)", (CallBy) (x, v) -> x.makes(0, v, 1)},
            {34, "scales(0, v)", (CallBy) (x, v) -> x.scales(0, v)},
            {38, "coordinates(0, v)", (CallBy) (x, v) -> x.coordinates(0, v)},
            {39, "made(0, v)", (CallBy) (x, v) -> x.made(0, v)},
            {43, "by(0, v)", (CallBy) (x, v) -> x.by(0, v)},
            {45, "productIn(0, v, 0)", (CallBy) (x, v) -> x.productIn(0, v, 0)},
            {45, "productIn(0, 0, v)", (CallBy) (x, v) -> x.productIn(0, 0, v)},
            {46, "far(0, v, 0)", (CallBy) (x, v) -> x.far(0, v, 0)},
            {46, "far(0, 0, v)", (CallBy) (x, v) -> x.far(0, 0, v)},
            {53, "tower(0, 1, v)", (CallBy) (x, v) -> x.tower(0, 1, v)},
            {55, "maps(g, v, 0)", (CallBy) (x, v) -> x.maps(POLYS[m], v, 0)},
            {55, "maps(g, 2, v)", (CallBy) (x, v) -> x.maps(POLYS[m], 2, v)},
        };
        for (Object[] one : calls) {
            between(m, (Integer) one[0], (String) one[1], 0, (1 << m) - 1, (CallBy) one[2]);
        }
    }

    private static void slots(int m) {
        Object[][] calls = {
            {32, "makes(v, 2, 0)", (CallBy) (x, v) -> x.makes(v, 2, 0)},
            {33, "copies(v, 0)", (CallBy) (x, v) -> x.copies(v, 0)},
            {33, "copies(0, v)", (CallBy) (x, v) -> x.copies(0, v)},
            {34, "scales(v, 1)", (CallBy) (x, v) -> x.scales(v, 1)},
            {35, "moves(v, 0, 1)", (CallBy) (x, v) -> x.moves(v, 0, 1)},
            {36, "adds(v, 0, 1)", (CallBy) (x, v) -> x.adds(v, 0, 1)},
            {37, "at(v, 0)", (CallBy) (x, v) -> x.at(v, 0)},
            {38, "coordinates(v, 0)", (CallBy) (x, v) -> x.coordinates(v, 0)},
            {39, "made(v, 0)", (CallBy) (x, v) -> x.made(v, 0)},
            {40, "change(v, 0)", (CallBy) (x, v) -> x.change(v, 0)},
            {40, "change(0, v)", (CallBy) (x, v) -> x.change(0, v)},
            {41, "table(v, 0, 0)", (CallBy) (x, v) -> x.table(v, 0, 0)},
            {42, "complexity(v)", (CallBy) (x, v) -> x.complexity(v)},
            {43, "by(v, 0)", (CallBy) (x, v) -> x.by(v, 0)},
            {44, "squares(v)", (CallBy) (x, v) -> x.squares(v)},
            {45, "productIn(v, 0, 0)", (CallBy) (x, v) -> x.productIn(v, 0, 0)},
            {46, "far(v, 0, 0)", (CallBy) (x, v) -> x.far(v, 0, 0)},
            {47, "steady(v)", (CallBy) (x, v) -> x.steady(v)},
            {48, "bestScale(v)", (CallBy) (x, v) -> x.bestScale(v)},
            {49, "same(v, 0)", (CallBy) (x, v) -> x.same(v, 0)},
            {49, "same(0, v)", (CallBy) (x, v) -> x.same(0, v)},
            {50, "dual(v, 0)", (CallBy) (x, v) -> x.dual(v, 0)},
            {50, "dual(0, v)", (CallBy) (x, v) -> x.dual(0, v)},
            {51, "weakly(v)", (CallBy) (x, v) -> x.weakly(v)},
            {52, "traces(v)", (CallBy) (x, v) -> x.traces(v)},
            {53, "tower(v, 1, 2)", (CallBy) (x, v) -> x.tower(v, 1, 2)},
        };
        for (Object[] one : calls) {
            between(m, (Integer) one[0], (String) one[1], 0, 3, (CallBy) one[2]);
        }
    }

    private static void places(int m) {
        Object[][] calls = {
            {35, "moves(0, v, 1)", (CallBy) (x, v) -> x.moves(0, v, 1)},
            {35, "moves(0, 1, v)", (CallBy) (x, v) -> x.moves(0, 1, v)},
            {36, "adds(0, v, 1)", (CallBy) (x, v) -> x.adds(0, v, 1)},
            {36, "adds(0, 1, v)", (CallBy) (x, v) -> x.adds(0, 1, v)},
            {37, "at(0, v)", (CallBy) (x, v) -> x.at(0, v)},
            {41, "table(0, v, 0)", (CallBy) (x, v) -> x.table(0, v, 0)},
            {41, "table(0, 0, v)", (CallBy) (x, v) -> x.table(0, 0, v)},
        };
        for (Object[] one : calls) {
            between(m, (Integer) one[0], (String) one[1], 0, m - 1, (CallBy) one[2]);
        }
    }

    private static void subfields(int m) {
        Object[][] calls = {
            {13, "trace(0, v)", (CallBy) (x, v) -> x.trace(0, v)},
            {14, "norm(0, v)", (CallBy) (x, v) -> x.norm(0, v)},
            {18, "traced(v, 0)", (CallBy) (x, v) -> x.traced(v, 0)},
            {24, "subfield(v)", (CallBy) (x, v) -> x.subfield(v)},
            {53, "tower(0, v, 2)", (CallBy) (x, v) -> x.tower(0, v, 2)},
        };
        for (Object[] one : calls) {
            for (int d = -2 * m; d <= 3 * m; d++) {
                if (d > 0 && d <= m && m % d == 0) {
                    notRefused(m, (Integer) one[0], (String) one[1], d, (CallBy) one[2]);
                } else {
                    refused(m, (Integer) one[0], (String) one[1], d, (CallBy) one[2]);
                }
            }
            refused(m, (Integer) one[0], (String) one[1], MIN, (CallBy) one[2]);
            refused(m, (Integer) one[0], (String) one[1], MAX, (CallBy) one[2]);
        }
    }

    /** Polynomials of degree 1 .. 8 fit by their degree alone; the elements of their field are bounded by it, too. */
    private static void othersByField(int m) {
        int[] least = {1, 2, 7, 11, 19, 37, 67, 131, 283, 529};
        for (int n = 0; n < least.length; n++) {
            int g = least[n];
            if (n == 0 || m % n != 0) {
                refused(m, 54, "fits(v)", g, (x, v) -> x.fits(v));
                refused(m, 55, "maps(v, 0, 0)", g, (x, v) -> x.maps(v, 0, 0));
            } else {
                notRefused(m, 54, "fits(v)", g, (x, v) -> x.fits(v));
                FieldBases x = busy(m);
                x.fits(g);
                int root = (int) x.row(0);
                between(m, 55, "maps(" + g + ", " + root + ", v)", 0, (1 << n) - 1, (y, v) -> y.maps(g, root, v));
            }
        }
        int[] none = {0, -1, MIN, MIN | 7, MAX, -7, 1 << 9, 1 << 16, 1 << 30};
        for (int g : none) {
            refused(m, 54, "fits(v)", g, (x, v) -> x.fits(v));
            refused(m, 55, "maps(v, 0, 0)", g, (x, v) -> x.maps(v, 0, 0));
        }
        refused(m, 55, "maps(v, 0, 0), which is not IRREDUCIBLE", 1 << m, (x, v) -> x.maps(v, 0, 0));
        refused(m, 55, "maps(v, 1, 0), which is not IRREDUCIBLE", 1 | 1 << m, (x, v) -> x.maps(v, 1, 0));
    }

    private static void ranges() {
        for (int m = 2; m <= 8; m += 3) {
            between(m, 8, "power(2, v)", 0, 1000000000, (x, v) -> x.power(2, v));
            between(m, 8, "power(0, v)", 0, 1000000000, (x, v) -> x.power(0, v));
            between(m, 10, "conjugate(2, v)", 0, 100, (x, v) -> x.conjugate(2, v));
            between(m, 19, "factors(v)", 2, 1023, (x, v) -> x.factors(v));
            between(m, 30, "types(v)", 2, 100, (x, v) -> x.types(v));
            between(m, 32, "makes(0, 3, v)", 0, 1, (x, v) -> x.makes(0, 3, v));
            between(m, 56, "irreducibles(v)", 1, 8, (x, v) -> x.irreducibles(v));
            between(m, 61, "count(v)", 0, 6, (x, v) -> x.count(v));
            int signs = busy(m).written(NONE);
            between(m, 60, "written(v)", NONE, signs - 1, (x, v) -> x.written(v));
            int[] others = {0, 1, 2, 3, 512, 513, 529, 1023, 1024, -1, -7, MIN, MIN | 7, MAX};
            for (int n : others) {
                refused(m, 5, "poly(v)", n, (x, v) -> x.poly(v));
            }
            notRefused(m, 5, "poly(v)", 4, (x, v) -> x.poly(v));
            notRefused(m, 5, "poly(v)", 7, (x, v) -> x.poly(v));
            notRefused(m, 5, "poly(v)", 511, (x, v) -> x.poly(v));
            notRefused(m, 5, "poly(v)", 505, (x, v) -> x.poly(v));
            int[] lengths = {-1, -2, MIN, 3, 4, 100, 101, MAX};
            for (int n : lengths) {
                unchanged(3, "end(" + n + ") of two signs", () -> busy(5), 0, x -> x.end(n) ? 1 : 0);
            }
        }
    }

    // ---- other answers below 0

    private static void unchangedBy(int m, int promise, String what, int want, Call call) {
        unchanged(promise, what + " by m " + m, () -> busy(m), want, call);
    }

    private static void notSo(int m) {
        int last = (1 << m) - 1;
        unchangedBy(m, 5, "poly(510)", -2, x -> x.poly(510));
        unchangedBy(m, 5, "poly(5)", -2, x -> x.poly(5));
        unchangedBy(m, 7, "inverse(0)", -2, x -> x.inverse(0));
        unchangedBy(m, 9, "order(0)", -2, x -> x.order(0));
        for (int a = 0; a <= last; a++) {
            if (busy(m).trace(a, 1) == 1) {
                int none = a;
                unchangedBy(m, 16, "solves(" + a + ")", -2, x -> x.solves(none));
                break;
            }
        }
        unchangedBy(m, 17, "log(1, 2)", -2, x -> x.log(1, 2));
        unchangedBy(m, 17, "log(0, 2)", -2, x -> x.log(0, 2));
        unchangedBy(m, 17, "log(2, 0)", -2, x -> x.log(2, 0));
        unchangedBy(m, 32, "makes(0, 0, 0)", -2, x -> x.makes(0, 0, 0));
        unchangedBy(m, 32, "makes(0, 1, 0)", -2, x -> x.makes(0, 1, 0));
        unchangedBy(m, 32, "makes(0, 0, 1)", -2, x -> x.makes(0, 0, 1));
        unchangedBy(m, 32, "makes(0, 1, 1)", -2, x -> x.makes(0, 1, 1));
        unchangedBy(m, 34, "scales(3, 0)", -2, x -> x.scales(3, 0));
        unchangedBy(m, 35, "moves(3, m - 1, m - 1)", -2, x -> x.moves(3, m - 1, m - 1));
        unchangedBy(m, 36, "adds(3, 0, 0)", -2, x -> x.adds(3, 0, 0));
        unchangedBy(m, 53, "tower(0, 1, 0)", -2, x -> x.tower(0, 1, 0));
        unchangedBy(m, 53, "tower(0, 1, 1)", -2, x -> x.tower(0, 1, 1));
        unchangedBy(m, 54, "fits(1 << m)", -2, x -> x.fits(1 << m));
        unchangedBy(m, 54, "fits(1 | 1 << m)", -2, x -> x.fits(1 | 1 << m));
        unchangedBy(m, 55, "maps(g, 0, 0)", -2, x -> x.maps(POLYS[m], 0, 0));
        unchangedBy(m, 55, "maps(2, 1, 0)", -2, x -> x.maps(2, 1, 0));
    }

    /** Terms 2: of several answers below 0 that fit NONE comes ahead of -2. */
    private static void noneFirst(int m) {
        int over = 1 << m;
        unchangedBy(m, 32, "makes(4, 0, 0)", NONE, x -> x.makes(4, 0, 0));
        unchangedBy(m, 32, "makes(0, 0, 2)", NONE, x -> x.makes(0, 0, 2));
        unchangedBy(m, 32, "makes(0, 1, -1)", NONE, x -> x.makes(0, 1, -1));
        unchangedBy(m, 34, "scales(4, 0)", NONE, x -> x.scales(4, 0));
        unchangedBy(m, 35, "moves(4, 0, 0)", NONE, x -> x.moves(4, 0, 0));
        unchangedBy(m, 35, "moves(0, m, m)", NONE, x -> x.moves(0, m, m));
        unchangedBy(m, 35, "moves(0, -1, -1)", NONE, x -> x.moves(0, -1, -1));
        unchangedBy(m, 36, "adds(-1, 1, 1)", NONE, x -> x.adds(-1, 1, 1));
        unchangedBy(m, 36, "adds(0, m, m)", NONE, x -> x.adds(0, m, m));
        unchangedBy(m, 53, "tower(4, 1, 0)", NONE, x -> x.tower(4, 1, 0));
        unchangedBy(m, 53, "tower(0, 0, 0)", NONE, x -> x.tower(0, 0, 0));
        unchangedBy(m, 54, "fits(2 << m), which is not IRREDUCIBLE", NONE, x -> x.fits(2 << m));
        unchangedBy(m, 55, "maps(g, 0, over), 0 no root", NONE, x -> x.maps(POLYS[m], 0, over));
        unchangedBy(m, 55, "maps(2, 1, 2), 1 no root", NONE, x -> x.maps(2, 1, 2));
        unchangedBy(m, 55, "maps(1 << m, 1, 0), 1 no root", NONE, x -> x.maps(1 << m, 1, 0));
        unchangedBy(m, 5, "poly(1024), which is not IRREDUCIBLE", NONE, x -> x.poly(1024));
        unchangedBy(m, 17, "log(1, over)", NONE, x -> x.log(1, over));
        unchangedBy(m, 17, "log(over, 0)", NONE, x -> x.log(over, 0));
    }

    /** What has never been begun can't be undone or taken back, and the ROW has no number. */
    private static void neverBegun() {
        Maker told = () -> {
            FieldBases x = new FieldBases();
            x.conjugates(2);
            x.sign(CARRIED);
            x.end(2);
            return x;
        };
        unchanged(57, "undo() without a DEED", told, -2, x -> x.undo());
        unchanged(59, "back() without keeps()", told, -2, x -> x.back());
        Maker changed = () -> {
            FieldBases x = told.made();
            x.moves(0, 0, 1);
            return x;
        };
        unchanged(59, "back() without keeps()", changed, -2, x -> x.back());
        unchanged(57, "undo() of what is undone", () -> {
            FieldBases x = changed.made();
            x.undo();
            return x;
        }, -2, x -> x.undo());
        unchanged(2, "sign() of 100", () -> full(100), NONE, x -> x.sign(0x2B782B31));
        unchanged(2, "sign() of 97", () -> full(97), NONE, x -> x.sign(0x2B782B31));
        unchanged(2, "sign() of 99", () -> full(99), NONE, x -> x.sign(-1));
    }

    private static FieldBases full(int signs) {
        FieldBases x = new FieldBases();
        for (int k = 0; k < 25; k++) {
            x.sign(k == 0 ? CARRIED : REST);
        }
        x.end(signs);
        return x;
    }

    // ---- THE TEXT

    private static void tells(FieldBases x, String text) {
        x.end(0);
        for (int i = 0; i < text.length(); i += 4) {
            int v = 0;
            for (int k = 0; k < 4; k++) {
                v = v << 8 | (i + k < text.length() ? text.charAt(i + k) : 0);
            }
            x.sign(v);
        }
        x.end(text.length());
    }

    /** Like a twin whose TEXT is empty, whatever is answered below 0. */
    private static void emptied(int promise, String text, int want, Call call) {
        FieldBases x = busy(4);
        tells(x, text);
        due(promise, "the text " + text, call.of(x), want);
        FieldBases twin = busy(4);
        twin.end(0);
        alike(promise, "the text " + text, shown(x), shown(twin));
    }

    private static void texts() {
        emptied(4, "", -21, x -> x.field());
        emptied(4, "x4+x4", -25, x -> x.field());
        emptied(4, "x4+", -24, x -> x.field());
        emptied(4, "x4+x", -2, x -> x.field());
        emptied(4, "1,2,4,8", -21, x -> x.field());
        emptied(31, "", -21, x -> x.base(0));
        emptied(31, "1,2,4", -26, x -> x.base(0));
        emptied(31, "1,2,16,8", -26, x -> x.base(3));
        emptied(31, "1,2,3,8", -2, x -> x.base(3));
        emptied(31, "x4+x+1", -21, x -> x.base(0));
        int[] slots = {-1, 4, MIN, MAX};
        for (int s : slots) {
            emptied(31, "1,2,4,8", NONE, x -> x.base(s));
            emptied(31, "1,2,3,8", NONE, x -> x.base(s));
            emptied(31, "1,2,16,8", -26, x -> x.base(s));
            emptied(31, "1,2,4,", -27, x -> x.base(s));
            emptied(31, "", -21, x -> x.base(s));
        }
    }

    // ---- calls that ask, calls that tell of the ROW

    private static Object[][] asking(int m) {
        return new Object[][] {
            {6, "product", 0, (Call) x -> x.product(2, 3)},
            {7, "inverse", 0, (Call) x -> x.inverse(2)},
            {8, "power", 0, (Call) x -> x.power(2, 5)},
            {9, "order", 1, (Call) x -> x.order(2)},
            {10, "conjugate", 0, (Call) x -> x.conjugate(2, 3)},
            {11, "conjugates of 1", 1, (Call) x -> x.conjugates(1)},
            {11, "conjugates of 2", m, (Call) x -> x.conjugates(2)},
            {12, "least", 2, (Call) x -> x.least(2)},
            {13, "trace", 0, (Call) x -> x.trace(2, 1)},
            {14, "norm", 0, (Call) x -> x.norm(2, 1)},
            {15, "root", 0, (Call) x -> x.root(2)},
            {16, "solves", 1, (Call) x -> x.solves(0)},
            {17, "log", 0, (Call) x -> x.log(2, 1)},
            {18, "traced", 1, (Call) x -> x.traced(1, 1)},
            {19, "factors", 9, (Call) x -> x.factors(512)},
            {20, "orders", ordersOf(m), (Call) x -> x.orders()},
            {21, "quadratic of all", Math.min(8, 1 << m), (Call) x -> x.quadratic(0, 0, 0)},
            {21, "quadratic of none", -1, (Call) x -> x.quadratic(0, 0, 1)},
            {22, "classes", m, (Call) x -> x.classes()},
            {23, "generators", 1, (Call) x -> x.generators()},
            {24, "subfield", m, (Call) x -> x.subfield(m)},
            {25, "normal", 1, (Call) x -> x.normal(1)},
            {26, "normals", 2, (Call) x -> x.normals()},
            {27, "complete", 0, (Call) x -> x.complete(2)},
            {28, "leastNormal", 2, (Call) x -> x.leastNormal()},
            {29, "leastPowers", 2, (Call) x -> x.leastPowers()},
            {30, "types", 2, (Call) x -> x.types(7)},
            {37, "at", 0, (Call) x -> x.at(0, 1)},
            {38, "coordinates", 1, (Call) x -> x.coordinates(0, 3)},
            {39, "made", 0, (Call) x -> x.made(0, 3)},
            {40, "change", m, (Call) x -> x.change(0, 2)},
            {41, "table", 0, (Call) x -> x.table(0, 1, 1)},
            {42, "complexity", 3, (Call) x -> x.complexity(0)},
            {43, "by", m + 1, (Call) x -> x.by(0, 3)},
            {44, "squares", m, (Call) x -> x.squares(0)},
            {45, "productIn", 0, (Call) x -> x.productIn(0, 2, 3)},
            {46, "far", 2, (Call) x -> x.far(0, 2, 3)},
            {47, "steady", 1, (Call) x -> x.steady(0)},
            {48, "bestScale", 1, (Call) x -> x.bestScale(0)},
            {49, "same", 2, (Call) x -> x.same(0, 1)},
            {51, "weakly", m, (Call) x -> x.weakly(1)},
            {52, "traces", m, (Call) x -> x.traces(0)},
            {54, "fits", m, (Call) x -> x.fits(POLYS[m])},
            {55, "maps", 0, (Call) x -> x.maps(POLYS[m], 2, 3)},
            {56, "irreducibles", 2, (Call) x -> x.irreducibles(8)},
            {60, "written", 0, (Call) x -> x.written(0)},
            {61, "count", 0, (Call) x -> x.count(5)},
            {62, "row", 0, (Call) x -> (int) x.row(0)},
        };
    }

    private static int ordersOf(int m) {
        int many = 0;
        for (int n = 1; n < 1 << m; n++) {
            many += ((1 << m) - 1) % n == 0 ? 2 : 0;
        }
        return many;
    }

    private static List<Long> rowOf(FieldBases x) {
        List<Long> row = new ArrayList<>();
        int numbers = x.count(3);
        for (int i = 0; i < numbers; i++) {
            row.add(x.row(i));
        }
        return row;
    }

    private static void askingChangesNothing(int m) {
        for (Object[] one : asking(m)) {
            FieldBases x = busy(m);
            ((Call) one[3]).of(x);
            FieldBases twin = busy(m);
            // the ROW alone may differ: both are brought to the same one
            x.far(0, 1, 1);
            twin.far(0, 1, 1);
            alike((Integer) one[0], one[1] + " by m " + m, shown(x), shown(twin));
        }
        FieldBases x = busy(m);
        x.keeps();
        FieldBases twin = busy(m);
        alike(58, "the ROW behind keeps()", rowOf(x), rowOf(twin));
        due(58, "DEEDS behind keeps()", x.count(2), twin.count(2));
        due(58, "signs behind keeps()", x.count(4), 2);
    }

    /** Terms 2: the ROW stays with calls that do not tell of it. */
    private static void rowStays(int m) {
        List<Object[]> calls = new ArrayList<>(Arrays.asList(asking(m)));
        calls.addAll(Arrays.asList(new Object[][] {
            {2, "sign", 0, (Call) x -> x.sign(-1)},
            {3, "end", 0, (Call) x -> x.end(0) ? 1 : 0},
            {5, "poly", 0, (Call) x -> x.poly(19)},
            {32, "makes", 0, (Call) x -> x.makes(0, 2, 0)},
            {33, "copies", 0, (Call) x -> x.copies(0, 3)},
            {34, "scales", 0, (Call) x -> x.scales(0, 3)},
            {35, "moves", 0, (Call) x -> x.moves(0, 0, 1)},
            {36, "adds", 0, (Call) x -> x.adds(0, 0, 1)},
            {53, "tower", 0, (Call) x -> x.tower(0, m, 1)},
            {57, "undo", 0, (Call) x -> x.undo()},
            {58, "keeps", 0, (Call) x -> x.keeps()},
            {59, "back", 0, (Call) x -> x.back()},
        }));
        for (Object[] one : calls) {
            if ((Integer) one[2] == 0) {
                FieldBases x = busy(m);
                x.factors(1023);
                int answer = ((Call) one[3]).of(x);
                due((Integer) one[0], one[1] + " by m " + m + " is below 0", answer < 0 ? 1 : 0, 0);
                alike((Integer) one[0], "the ROW behind " + one[1] + " by m " + m, rowOf(x), List.of(3L, 31L, 31L));
            }
        }
        FieldBases x = busy(m);
        x.factors(1023);
        tells(x, "x3+x+1");
        due(4, "field()", x.field(), 3);
        tells(x, "1,2,4");
        due(31, "base(1)", x.base(1), 3);
        alike(31, "the ROW behind field() and base()", rowOf(x), List.of(3L, 31L, 31L));
    }

    /** A call that tells of the ROW leaves no number of a longer one, nor of a shorter one. */
    private static void rowIsTold(int m) {
        for (Object[] one : asking(m)) {
            int want = (Integer) one[2];
            if (want != 0) {
                FieldBases x = busy(m);
                x.poly(283);
                x.orders();
                x.undo();
                due((Integer) one[0], "numbers ahead", x.count(3), 16);
                int answer = ((Call) one[3]).of(x);
                if (answer >= 0) {
                    due((Integer) one[0], "numbers of the ROW of " + one[1] + " by m " + m, x.count(3), Math.max(0, want));
                }
                x.quadratic(0, 0, 1);
                due((Integer) one[0], "numbers of no ROW", x.count(3), 0);
                answer = ((Call) one[3]).of(x);
                if (answer >= 0) {
                    due((Integer) one[0], "numbers of the ROW of " + one[1] + " by m " + m, x.count(3), Math.max(0, want));
                }
            }
        }
        FieldBases x = busy(m);
        x.factors(512);
        x.dual(0, 3);
        due(50, "numbers of the ROW of dual by m " + m, x.count(3), m);
    }
}
