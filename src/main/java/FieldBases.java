import java.util.NoSuchElementException;

/** Fields of 2^2 to 2^8 elements, and four bases of the one that is told. */
public final class FieldBases {
    public static final int NONE = -1;

    private static final int NOT_SO = -2;
    private static final int FIRST_POLY = 7;
    private static final int MOST_DEGREE = 8;
    private static final int MOST_CONJUGATE = 100;
    private static final int MOST_POWER = 1000000000;
    private static final int MOST_ROOTS_TOLD = 8;

    private final Measure measure = new Measure();
    private final Field numbers = measure.numbers;
    private final Frame frame = measure.frame;
    private final State now = new State();
    private final State kept = new State();
    private final Past past = new Past();
    private final Text text = new Text();
    private final Row told = new Row();
    private final int[] fresh = new int[MOST_DEGREE];
    private final int[] second = new int[MOST_DEGREE];
    private boolean keeping;

    public FieldBases() {
        numbers.settle(FIRST_POLY);
        now.start(FIRST_POLY);
    }

    // ---- the field

    public int sign(int v) {
        return text.takes(v) ? text.length : NONE;
    }

    public boolean end(int n) {
        return text.shortens(n);
    }

    public int field() {
        int n = text.polynomialRead();
        text.empties();
        if (n < 0) {
            return n;
        }
        return Polynomials.isIrreducible(n) ? tellsField(n) : NOT_SO;
    }

    public int poly(int n) {
        int degree = Polynomials.degreeOf(n);
        if (degree < 2 || degree > MOST_DEGREE) {
            return NONE;
        }
        return Polynomials.isIrreducible(n) ? tellsField(n) : NOT_SO;
    }

    public int product(int a, int b) {
        return isElement(a) && isElement(b) ? numbers.times(a, b) : NONE;
    }

    public int inverse(int a) {
        if (!isElement(a)) {
            return NONE;
        }
        return a == 0 ? NOT_SO : numbers.turned(a);
    }

    public int power(int a, int n) {
        if (!isElement(a) || n < 0 || n > MOST_POWER) {
            return NONE;
        }
        return numbers.raised(a, n);
    }

    public int order(int a) {
        if (!isElement(a)) {
            return NONE;
        }
        if (a == 0) {
            return NOT_SO;
        }
        int found = numbers.orderOf(a);
        told.empties();
        told.puts(found == numbers.size - 1 ? 1 : 0);
        return found;
    }

    public int conjugate(int a, int k) {
        if (!isElement(a) || k < 0 || k > MOST_CONJUGATE) {
            return NONE;
        }
        return numbers.squared(a, k);
    }

    public int conjugates(int a) {
        if (!isElement(a)) {
            return NONE;
        }
        int many = numbers.sizeOf(a);
        told.empties();
        int c = a;
        for (int k = 0; k < many; k++) {
            told.puts(c);
            c = numbers.times(c, c);
        }
        return many;
    }

    public int least(int a) {
        if (!isElement(a)) {
            return NONE;
        }
        int found = measure.leastPolynomial(a);
        int degree = Polynomials.degreeOf(found);
        told.empties();
        told.puts(degree);
        told.puts(degree > 0 ? (found >> (degree - 1)) & 1 : 0);
        return found;
    }

    public int trace(int a, int d) {
        return isElement(a) && numbers.hasSubfield(d) ? numbers.tracedTo(a, d) : NONE;
    }

    public int norm(int a, int d) {
        return isElement(a) && numbers.hasSubfield(d) ? numbers.normedTo(a, d) : NONE;
    }

    public int root(int a) {
        return isElement(a) ? numbers.squared(a, numbers.degree - 1) : NONE;
    }

    public int solves(int a) {
        if (!isElement(a)) {
            return NONE;
        }
        for (int x = 0; x < numbers.size; x++) {
            if ((numbers.times(x, x) ^ x) == a) {
                told.empties();
                told.puts(x ^ 1);
                return x;
            }
        }
        return NOT_SO;
    }

    public int log(int a, int b) {
        if (!isElement(a) || !isElement(b)) {
            return NONE;
        }
        int reached = 1;
        for (int n = 0; n < numbers.size; n++) {
            if (reached == b) {
                return n;
            }
            reached = numbers.times(reached, a);
        }
        return NOT_SO;
    }

    public int traced(int d, int v) {
        if (!numbers.hasSubfield(d) || !isElement(v)) {
            return NONE;
        }
        int many = 0;
        int first = NONE;
        for (int a = 0; a < numbers.size; a++) {
            if (numbers.tracedTo(a, d) == v) {
                many++;
                first = first == NONE ? a : first;
            }
        }
        told.empties();
        told.puts(first);
        return many;
    }

    public int factors(int p) {
        if (p < 2 || p > 1023) {
            return NONE;
        }
        told.empties();
        int first = NONE;
        int rest = p;
        for (int q = 2; q <= 1023 && rest > 1; q++) {
            // no factor below q is left: what has less than twice its degree can't be split
            int next = 2 * Polynomials.degreeOf(q) > Polynomials.degreeOf(rest) ? rest : q;
            for (int k = 0; k < 10 && rest > 1 && Polynomials.remainder(rest, next) == 0; k++) {
                told.puts(next);
                first = first == NONE ? next : first;
                rest = Polynomials.quotient(rest, next);
            }
        }
        return first;
    }

    public int orders() {
        int many = 0;
        told.empties();
        for (int n = 1; n < numbers.size; n++) {
            int having = numbers.howManyOfOrder(n);
            if (having > 0) {
                many++;
                told.puts(n);
                told.puts(having);
            }
        }
        return many;
    }

    public int quadratic(int a, int b, int c) {
        if (!isElement(a) || !isElement(b) || !isElement(c)) {
            return NONE;
        }
        int many = 0;
        told.empties();
        for (int x = 0; x < numbers.size; x++) {
            int inner = numbers.times(a, x) ^ b;
            if (numbers.times(inner, x) == c) {
                if (many < MOST_ROOTS_TOLD) {
                    told.puts(x);
                }
                many++;
            }
        }
        return many;
    }

    public int classes() {
        int many = 0;
        told.empties();
        for (int k = 1; k <= numbers.degree; k++) {
            int having = 0;
            for (int a = 0; a < numbers.size; a++) {
                having += numbers.sizeOf(a) == k ? 1 : 0;
            }
            told.puts(having);
            many += having / k;
        }
        return many;
    }

    public int generators() {
        int many = 0;
        int first = NONE;
        for (int a = 1; a < numbers.size; a++) {
            if (numbers.generates(a)) {
                many++;
                first = first == NONE ? a : first;
            }
        }
        told.empties();
        told.puts(first);
        return many;
    }

    public int subfield(int d) {
        if (!numbers.hasSubfield(d)) {
            return NONE;
        }
        measure.fillsSubbase(second, d);
        told.empties();
        told.putsAll(second, d);
        return 1 << d;
    }

    // ---- normal ones

    public int normal(int a) {
        if (!isElement(a)) {
            return NONE;
        }
        numbers.fillsConjugates(fresh, a);
        boolean is = frame.holds(fresh, numbers.degree);
        told.empties();
        told.puts(frame.rank);
        return is ? 1 : 0;
    }

    public int normals() {
        int many = 0;
        int first = NONE;
        int firstGenerator = NONE;
        for (int a = 1; a < numbers.size; a++) {
            numbers.fillsConjugates(fresh, a);
            if (frame.holds(fresh, numbers.degree)) {
                many++;
                first = first == NONE ? a : first;
                firstGenerator = firstGenerator == NONE && numbers.generates(a) ? a : firstGenerator;
            }
        }
        told.empties();
        told.puts(first);
        told.puts(firstGenerator);
        return many;
    }

    public int complete(int a) {
        if (!isElement(a)) {
            return NONE;
        }
        int bits = 0;
        for (int d = 1; d < numbers.degree; d++) {
            if (numbers.hasSubfield(d)) {
                measure.fillsSubbase(second, d);
                measure.fillsOverSubbase(fresh, second, d, a);
                bits |= frame.holds(fresh, numbers.degree) ? 1 << d : 0;
            }
        }
        return bits;
    }

    public int leastNormal() {
        int best = 0;
        int first = NONE;
        int many = 0;
        for (int a = 1; a < numbers.size; a++) {
            numbers.fillsConjugates(fresh, a);
            if (frame.holds(fresh, numbers.degree)) {
                int bits = measure.bitsOfFirst(fresh);
                if (first == NONE || bits < best) {
                    best = bits;
                    first = a;
                    many = 0;
                }
                many += bits == best ? 1 : 0;
            }
        }
        told.empties();
        told.puts(first);
        told.puts(many);
        return best;
    }

    public int leastPowers() {
        int best = 0;
        int first = NONE;
        int many = 0;
        for (int a = 1; a < numbers.size; a++) {
            numbers.fillsPowers(fresh, a);
            if (frame.holds(fresh, numbers.degree)) {
                int bits = measure.bitsOfAll(fresh);
                if (first == NONE || bits < best) {
                    best = bits;
                    first = a;
                    many = 0;
                }
                many += bits == best ? 1 : 0;
            }
        }
        told.empties();
        told.puts(first);
        told.puts(many);
        return best;
    }

    public int types(int n) {
        if (n < 2 || n > 100) {
            return NONE;
        }
        int p = n + 1;
        int q = 2 * n + 1;
        int ofP = Primes.powersOfTwo(p);
        int ofQ = Primes.powersOfTwo(q);
        int bits = ofP == n ? 1 : 0;
        if (ofQ == 2 * n || (ofQ == n && (q & 3) == 3)) {
            bits |= 2;
        }
        told.empties();
        told.puts(ofP);
        told.puts(ofQ);
        return bits;
    }

    // ---- bases

    public int base(int s) {
        int answer = text.elementsRead(fresh, numbers.degree, numbers.size);
        text.empties();
        if (answer < 0) {
            return answer;
        }
        if (!isSlot(s)) {
            return NONE;
        }
        if (!frame.holds(fresh, numbers.degree)) {
            return NOT_SO;
        }
        setsSlot(s, fresh);
        int bits = 0;
        for (int i = 0; i < numbers.degree; i++) {
            bits += Integer.bitCount(fresh[i]);
        }
        return bits;
    }

    public int makes(int s, int a, int way) {
        if (!isSlot(s) || !isElement(a) || way < 0 || way > 1) {
            return NONE;
        }
        if (way == 0) {
            numbers.fillsPowers(fresh, a);
        } else {
            numbers.fillsConjugates(fresh, a);
        }
        return frame.holds(fresh, numbers.degree) ? setsSlot(s, fresh) : NOT_SO;
    }

    public int copies(int s, int t) {
        if (!isSlot(s) || !isSlot(t)) {
            return NONE;
        }
        int changed = 0;
        for (int i = 0; i < numbers.degree; i++) {
            fresh[i] = now.slots[s][i];
            if (fresh[i] != now.slots[t][i]) {
                changed = 1;
            }
        }
        setsSlot(t, fresh);
        return changed;
    }

    public int scales(int s, int a) {
        if (!isSlot(s) || !isElement(a)) {
            return NONE;
        }
        if (a == 0) {
            return NOT_SO;
        }
        for (int i = 0; i < numbers.degree; i++) {
            fresh[i] = numbers.times(now.slots[s][i], a);
        }
        return setsSlot(s, fresh);
    }

    public int moves(int s, int i, int j) {
        if (!isSlot(s) || !isPlace(i) || !isPlace(j)) {
            return NONE;
        }
        if (i == j) {
            return NOT_SO;
        }
        now.copiesSlot(s, fresh);
        fresh[i] = now.slots[s][j];
        fresh[j] = now.slots[s][i];
        return setsSlot(s, fresh);
    }

    public int adds(int s, int i, int j) {
        if (!isSlot(s) || !isPlace(i) || !isPlace(j)) {
            return NONE;
        }
        if (i == j) {
            return NOT_SO;
        }
        now.copiesSlot(s, fresh);
        fresh[i] ^= fresh[j];
        return setsSlot(s, fresh);
    }

    public int at(int s, int i) {
        return isSlot(s) && isPlace(i) ? now.slots[s][i] : NONE;
    }

    public int coordinates(int s, int a) {
        if (!isSlot(s) || !isElement(a)) {
            return NONE;
        }
        frame.holds(now.slots[s], numbers.degree);
        int bits = frame.located(a);
        told.empties();
        told.puts(Integer.bitCount(bits));
        return bits;
    }

    public int made(int s, int bits) {
        return isSlot(s) && isElement(bits) ? measure.sumAt(now.slots[s], bits) : NONE;
    }

    public int change(int s, int t) {
        if (!isSlot(s) || !isSlot(t)) {
            return NONE;
        }
        frame.holds(now.slots[t], numbers.degree);
        return tellsLocated(now.slots[s]);
    }

    public int table(int s, int i, int j) {
        if (!isSlot(s) || !isPlace(i) || !isPlace(j)) {
            return NONE;
        }
        frame.holds(now.slots[s], numbers.degree);
        return frame.located(numbers.times(now.slots[s][i], now.slots[s][j]));
    }

    public int complexity(int s) {
        if (!isSlot(s)) {
            return NONE;
        }
        int[] elements = now.slots[s];
        frame.holds(elements, numbers.degree);
        int bits = measure.bitsOfFirst(elements);
        int whose = measure.whoseNormal(elements);
        told.empties();
        told.puts(measure.bitsOfAll(elements));
        told.puts(whose != NONE && bits == 2 * numbers.degree - 1 ? 1 : 0);
        told.puts(whose);
        return bits;
    }

    public int by(int s, int a) {
        if (!isSlot(s) || !isElement(a)) {
            return NONE;
        }
        frame.holds(now.slots[s], numbers.degree);
        int onPlace = 0;
        for (int i = 0; i < numbers.degree; i++) {
            fresh[i] = numbers.times(a, now.slots[s][i]);
            onPlace += (frame.located(fresh[i]) >> i) & 1;
        }
        int bits = tellsLocated(fresh);
        told.puts(onPlace);
        return bits;
    }

    public int squares(int s) {
        if (!isSlot(s)) {
            return NONE;
        }
        frame.holds(now.slots[s], numbers.degree);
        for (int i = 0; i < numbers.degree; i++) {
            fresh[i] = numbers.times(now.slots[s][i], now.slots[s][i]);
        }
        return tellsLocated(fresh);
    }

    public int productIn(int s, int a, int b) {
        if (!isSlot(s) || !isElement(a) || !isElement(b)) {
            return NONE;
        }
        int[] elements = now.slots[s];
        frame.holds(elements, numbers.degree);
        return frame.located(numbers.times(measure.sumAt(elements, a), measure.sumAt(elements, b)));
    }

    public int far(int s, int a, int b) {
        if (!isSlot(s) || !isElement(a) || !isElement(b)) {
            return NONE;
        }
        frame.holds(now.slots[s], numbers.degree);
        int ofA = frame.located(a);
        int ofB = frame.located(b);
        told.empties();
        told.puts(ofA ^ ofB);
        told.puts(ofA & ofB);
        return Integer.bitCount(ofA ^ ofB);
    }

    public int steady(int s) {
        if (!isSlot(s)) {
            return NONE;
        }
        frame.holds(now.slots[s], numbers.degree);
        int many = 0;
        int first = NONE;
        for (int a = 0; a < numbers.size; a++) {
            int bits = Integer.bitCount(frame.located(a));
            if (bits == Integer.bitCount(frame.located(numbers.times(a, a)))) {
                many++;
            } else if (first == NONE) {
                first = a;
            }
        }
        told.empties();
        told.puts(first);
        return many;
    }

    public int bestScale(int s) {
        if (!isSlot(s)) {
            return NONE;
        }
        int best = 0;
        int first = NONE;
        for (int c = 1; c < numbers.size; c++) {
            for (int i = 0; i < numbers.degree; i++) {
                fresh[i] = numbers.times(now.slots[s][i], c);
            }
            int bits = measure.complexityOf(fresh);
            if (first == NONE || bits < best) {
                best = bits;
                first = c;
            }
        }
        told.empties();
        told.puts(best);
        return first;
    }

    public int same(int s, int t) {
        if (!isSlot(s) || !isSlot(t)) {
            return NONE;
        }
        int common = 0;
        int atPlace = 0;
        for (int i = 0; i < numbers.degree; i++) {
            int element = now.slots[s][i];
            common += measure.placeOf(now.slots[t], element) == NONE ? 0 : 1;
            atPlace += now.slots[t][i] == element ? 1 : 0;
        }
        told.empties();
        told.puts(common);
        told.puts(atPlace);
        return common == numbers.degree ? 1 : 0;
    }

    // ---- duals, towers, other fields

    public int dual(int s, int t) {
        if (!isSlot(s) || !isSlot(t)) {
            return NONE;
        }
        measure.fillsDual(fresh, now.slots[s]);
        int answer = setsSlot(t, fresh);
        told.empties();
        told.putsAll(fresh, numbers.degree);
        return answer;
    }

    public int weakly(int s) {
        if (!isSlot(s)) {
            return NONE;
        }
        measure.fillsDual(fresh, now.slots[s]);
        for (int c = 1; c < numbers.size; c++) {
            if (measure.fillsPlaces(second, fresh, c, now.slots[s])) {
                told.empties();
                told.putsAll(second, numbers.degree);
                return c;
            }
        }
        return NOT_SO;
    }

    public int traces(int s) {
        if (!isSlot(s)) {
            return NONE;
        }
        int own = 1;
        told.empties();
        for (int i = 0; i < numbers.degree; i++) {
            int bits = measure.traceBits(now.slots[s], now.slots[s][i]);
            told.puts(bits);
            if (bits != 1 << i) {
                own = 0;
            }
        }
        return own;
    }

    public int tower(int s, int d, int a) {
        if (!isSlot(s) || !numbers.hasSubfield(d) || !isElement(a)) {
            return NONE;
        }
        measure.fillsSubbase(second, d);
        measure.fillsTower(fresh, second, d, a);
        return frame.holds(fresh, numbers.degree) ? setsSlot(s, fresh) : NOT_SO;
    }

    public int fits(int g) {
        if (!numbers.hasSubfield(Polynomials.degreeOf(g))) {
            return NONE;
        }
        if (!Polynomials.isIrreducible(g)) {
            return NOT_SO;
        }
        int many = 0;
        told.empties();
        for (int a = 0; a < numbers.size; a++) {
            if (numbers.valueAt(g, a) == 0) {
                told.puts(a);
                many++;
            }
        }
        return many;
    }

    public int maps(int g, int r, int e) {
        int degree = Polynomials.degreeOf(g);
        if (!numbers.hasSubfield(degree) || !Polynomials.isIrreducible(g)) {
            return NONE;
        }
        if (!isElement(r) || e < 0 || e >= 1 << degree) {
            return NONE;
        }
        return numbers.valueAt(g, r) == 0 ? numbers.valueAt(e, r) : NOT_SO;
    }

    public int irreducibles(int n) {
        if (n < 1 || n > MOST_DEGREE) {
            return NONE;
        }
        int many = 0;
        int first = NONE;
        int generated = 0;
        for (int p = 1 << n; p < 2 << n; p++) {
            if (Polynomials.isIrreducible(p)) {
                many++;
                first = first == NONE ? p : first;
                generated += n > 1 && Polynomials.isGeneratedByX(p) ? 1 : 0;
            }
        }
        told.empties();
        told.puts(first);
        told.puts(generated);
        return many;
    }

    // ---- undone, counted

    public int undo() {
        if (!past.restores(now)) {
            return NOT_SO;
        }
        followsState();
        return past.held;
    }

    public int keeps() {
        kept.becomes(now);
        keeping = true;
        return numbers.degree;
    }

    public int back() {
        if (!keeping) {
            return NOT_SO;
        }
        past.remembers(now);
        now.becomes(kept);
        followsState();
        return numbers.degree;
    }

    public int written(int k) {
        return text.signOf(now.modulus, k);
    }

    public int count(int what) {
        switch (what) {
            case 0:
                return numbers.degree;
            case 1:
                return now.modulus;
            case 2:
                return past.held;
            case 3:
                return told.length;
            case 4:
                return text.length;
            case 5:
                return normalSlots();
            case 6:
                return plainSlots();
            default:
                return NONE;
        }
    }

    public long row(int i) throws NoSuchElementException {
        if (i < 0 || i >= told.length) {
            throw new NoSuchElementException();
        }
        return told.numbers[i];
    }

    // ---- what several calls share

    private boolean isElement(int a) {
        return a >= 0 && a < numbers.size;
    }

    private boolean isSlot(int s) {
        return s >= 0 && s < State.SLOTS;
    }

    private boolean isPlace(int i) {
        return i >= 0 && i < numbers.degree;
    }

    private int tellsField(int n) {
        past.remembers(now);
        now.start(n);
        numbers.settle(n);
        return numbers.degree;
    }

    private int setsSlot(int s, int[] elements) {
        past.remembers(now);
        now.setsSlot(s, elements);
        return measure.complexityOf(elements);
    }

    private void followsState() {
        if (numbers.modulus != now.modulus) {
            numbers.settle(now.modulus);
        }
    }

    /** Tells COORDINATES in the frame as the ROW: how many bits they have. */
    private int tellsLocated(int[] elements) {
        int bits = 0;
        told.empties();
        for (int i = 0; i < numbers.degree; i++) {
            int found = frame.located(elements[i]);
            told.puts(found);
            bits += Integer.bitCount(found);
        }
        return bits;
    }

    private int normalSlots() {
        int bits = 0;
        for (int s = 0; s < State.SLOTS; s++) {
            bits |= measure.whoseNormal(now.slots[s]) == NONE ? 0 : 1 << s;
        }
        return bits;
    }

    private int plainSlots() {
        int bits = 0;
        for (int s = 0; s < State.SLOTS; s++) {
            bits |= now.isPlain(s, numbers.degree) ? 1 << s : 0;
        }
        return bits;
    }

    /** Polynomials of coefficients 0 and 1, as numbers. */
    private static final class Polynomials {
        private Polynomials() {
        }

        /** NONE for 0 and for numbers below it. */
        static int degreeOf(int p) {
            int degree = NONE;
            for (int k = 0; k < 31 && p >> k > 0; k++) {
                degree = k;
            }
            return degree;
        }

        static int remainder(int p, int q) {
            int degree = degreeOf(q);
            int rest = p;
            for (int k = degreeOf(p); k >= degree && degree >= 0; k--) {
                if (((rest >> k) & 1) != 0) {
                    rest ^= q << (k - degree);
                }
            }
            return rest;
        }

        static int quotient(int p, int q) {
            int degree = degreeOf(q);
            int rest = p;
            int found = 0;
            for (int k = degreeOf(p); k >= degree && degree >= 0; k--) {
                if (((rest >> k) & 1) != 0) {
                    rest ^= q << (k - degree);
                    found |= 1 << (k - degree);
                }
            }
            return found;
        }

        /** Is asked of degrees up to 9 alone, so that the trial ends soon. */
        static boolean isIrreducible(int p) {
            int degree = degreeOf(p);
            if (degree < 1 || degree > 9) {
                return false;
            }
            for (int q = 2; q < 32 && 2 * degreeOf(q) <= degree; q++) {
                if (remainder(p, q) == 0) {
                    return false;
                }
            }
            return true;
        }

        /** Whether x has the greatest order modulo an irreducible p of degree 2 .. 8. */
        static boolean isGeneratedByX(int p) {
            int degree = degreeOf(p);
            int last = (1 << degree) - 1;
            int a = 2;
            for (int n = 1; n < last; n++) {
                if (a == 1) {
                    return false;
                }
                a = remainder(a << 1, p);
            }
            return a == 1;
        }
    }

    /** How often 2 can be taken before its powers come again. */
    private static final class Primes {
        private Primes() {
        }

        private static boolean isPrime(int p) {
            for (int q = 2; q * q <= p && q < 1000; q++) {
                if (p % q == 0) {
                    return false;
                }
            }
            return p > 1;
        }

        /** How many unlike powers 2 has modulo p; 0, if p is not prime. */
        static int powersOfTwo(int p) {
            if (!isPrime(p) || p < 3) {
                return 0;
            }
            int reached = 2;
            int many = 1;
            for (int k = 0; k < p && reached != 1; k++) {
                reached = reached * 2 % p;
                many++;
            }
            return many;
        }
    }

    /** THE FIELD: products by the logarithms of one generator. */
    private static final class Field {
        int modulus;
        int degree;
        int size;
        final int[] powers = new int[256];
        final int[] logs = new int[256];
        // which of 1, x, x^2, .. have the trace 1: sums of them have the sum of the traces
        private int tracedOnes;

        void settle(int n) {
            modulus = n;
            degree = Polynomials.degreeOf(n);
            size = 1 << degree;
            boolean done = false;
            for (int g = 2; g < size && !done; g++) {
                done = fills(g);
            }
            tracedOnes = 0;
            for (int k = 0; k < degree; k++) {
                tracedOnes |= tracedTo(1 << k, 1) << k;
            }
        }

        /** Lays down the powers of g; false if they come again too early. */
        private boolean fills(int g) {
            int a = 1;
            for (int k = 0; k < size - 1; k++) {
                if (k > 0 && a == 1) {
                    return false;
                }
                powers[k] = a;
                logs[a] = k;
                a = multiplied(a, g);
            }
            return true;
        }

        private int multiplied(int a, int b) {
            int sum = 0;
            for (int k = 0; k < MOST_DEGREE; k++) {
                if (((b >> k) & 1) != 0) {
                    sum ^= a << k;
                }
            }
            return Polynomials.remainder(sum, modulus);
        }

        int times(int a, int b) {
            if (a == 0 || b == 0) {
                return 0;
            }
            int k = logs[a] + logs[b];
            return powers[k < size - 1 ? k : k - size + 1];
        }

        /** The inverse of an a that is not 0. */
        int turned(int a) {
            int k = logs[a];
            return powers[k == 0 ? 0 : size - 1 - k];
        }

        int raised(int a, int n) {
            int found = 1;
            int factor = a;
            for (int k = 0; k < 31; k++) {
                if (((n >> k) & 1) != 0) {
                    found = times(found, factor);
                }
                factor = times(factor, factor);
            }
            return found;
        }

        /** a squared k times. */
        int squared(int a, int k) {
            int found = a;
            for (int i = 0; i < k; i++) {
                found = times(found, found);
            }
            return found;
        }

        /** The order of an a that is not 0. */
        int orderOf(int a) {
            int all = size - 1;
            int x = all;
            int y = logs[a];
            for (int k = 0; k < 64 && y > 0; k++) {
                int rest = x % y;
                x = y;
                y = rest;
            }
            return x > 0 ? all / x : 1;
        }

        boolean generates(int a) {
            return orderOf(a) == size - 1;
        }

        int howManyOfOrder(int n) {
            int many = 0;
            if (n > 0 && (size - 1) % n == 0) {
                for (int a = 1; a < size; a++) {
                    many += orderOf(a) == n ? 1 : 0;
                }
            }
            return many;
        }

        int sizeOf(int a) {
            int c = times(a, a);
            int k = 1;
            while (k < degree && c != a) {
                c = times(c, c);
                k++;
            }
            return k;
        }

        boolean hasSubfield(int d) {
            return d >= 1 && d <= degree && degree % d == 0;
        }

        int tracedTo(int a, int d) {
            int step = d < 1 ? 1 : d;
            int sum = 0;
            int c = a;
            for (int k = 0; k < degree; k += step) {
                sum ^= c;
                c = squared(c, step);
            }
            return sum;
        }

        int tracedToOne(int a) {
            return Integer.bitCount(a & tracedOnes) & 1;
        }

        int normedTo(int a, int d) {
            int step = d < 1 ? 1 : d;
            int found = 1;
            int c = a;
            for (int k = 0; k < degree; k += step) {
                found = times(found, c);
                c = squared(c, step);
            }
            return found;
        }

        /** What a polynomial of degree 8 or less becomes, if a stands for x. */
        int valueAt(int polynomial, int a) {
            int value = 0;
            for (int k = MOST_DEGREE; k >= 0; k--) {
                value = times(value, a) ^ ((polynomial >> k) & 1);
            }
            return value;
        }

        void fillsPowers(int[] into, int a) {
            int c = 1;
            for (int i = 0; i < degree; i++) {
                into[i] = c;
                c = times(c, a);
            }
        }

        void fillsConjugates(int[] into, int a) {
            int c = a;
            for (int i = 0; i < degree; i++) {
                into[i] = c;
                c = times(c, c);
            }
        }
    }

    /** Independent elements, reduced so that each leads with a bit of its own. */
    private static final class Frame {
        private final int[] leads = new int[MOST_DEGREE];
        private final int[] shares = new int[MOST_DEGREE];
        int rank;

        void empties() {
            for (int k = 0; k < MOST_DEGREE; k++) {
                leads[k] = 0;
                shares[k] = 0;
            }
            rank = 0;
        }

        /** Takes an element in; false if those inside have it as a sum. */
        boolean takes(int element) {
            int rest = element;
            int share = 0;
            for (int k = MOST_DEGREE - 1; k >= 0; k--) {
                if (((rest >> k) & 1) != 0) {
                    if (leads[k] == 0) {
                        leads[k] = rest;
                        shares[k] = share ^ (1 << rank);
                        rank++;
                        return true;
                    }
                    rest ^= leads[k];
                    share ^= shares[k];
                }
            }
            return false;
        }

        /** Takes in the first n elements in place of all; whether they are independent. */
        boolean holds(int[] elements, int n) {
            empties();
            for (int i = 0; i < n; i++) {
                takes(elements[i]);
            }
            return rank == n;
        }

        /** Which of the elements taken in have this one as their sum, as bits. */
        int located(int element) {
            int rest = element;
            int share = 0;
            for (int k = MOST_DEGREE - 1; k >= 0; k--) {
                if (((rest >> k) & 1) != 0) {
                    rest ^= leads[k];
                    share ^= shares[k];
                }
            }
            return share;
        }
    }

    /** What is asked of lists of m elements of a field. */
    private static final class Measure {
        final Field numbers = new Field();
        final Frame frame = new Frame();

        int complexityOf(int[] elements) {
            frame.holds(elements, numbers.degree);
            return bitsOfFirst(elements);
        }

        /** COMPLEXITY of the base that the frame holds. */
        int bitsOfFirst(int[] elements) {
            int bits = 0;
            for (int j = 0; j < numbers.degree; j++) {
                bits += Integer.bitCount(frame.located(numbers.times(elements[0], elements[j])));
            }
            return bits;
        }

        /** WEIGHT of the base that the frame holds. */
        int bitsOfAll(int[] elements) {
            int bits = 0;
            for (int j = 0; j < numbers.degree; j++) {
                for (int i = 0; i <= j; i++) {
                    bits += Integer.bitCount(frame.located(numbers.times(elements[i], elements[j])));
                }
            }
            return bits;
        }

        /** The first element of a base, if the others are its conjugates in their order. */
        int whoseNormal(int[] elements) {
            for (int i = 1; i < numbers.degree; i++) {
                if (numbers.times(elements[i - 1], elements[i - 1]) != elements[i]) {
                    return NONE;
                }
            }
            return elements[0];
        }

        int sumAt(int[] elements, int bits) {
            int sum = 0;
            for (int i = 0; i < numbers.degree; i++) {
                sum ^= ((bits >> i) & 1) != 0 ? elements[i] : 0;
            }
            return sum;
        }

        int placeOf(int[] elements, int element) {
            for (int i = 0; i < numbers.degree; i++) {
                if (elements[i] == element) {
                    return i;
                }
            }
            return NONE;
        }

        int leastPolynomial(int a) {
            frame.empties();
            int reached = 1;
            int degree = 0;
            // the first power that those ahead have as a sum tells the polynomial
            while (degree < numbers.degree && frame.takes(reached)) {
                reached = numbers.times(reached, a);
                degree++;
            }
            return (1 << degree) | frame.located(reached);
        }

        void fillsSubbase(int[] into, int d) {
            frame.empties();
            for (int a = 1; a < numbers.size && frame.rank < d; a++) {
                int place = frame.rank;
                if (place < into.length && numbers.squared(a, d) == a && frame.takes(a)) {
                    into[place] = a;
                }
            }
        }

        /** Products of the d elements of a subbase by conjugates 0, d, 2 d, .. of a. */
        void fillsOverSubbase(int[] into, int[] subbase, int d, int a) {
            int c = a;
            int i = 0;
            for (int place = 0; place < numbers.degree; place++) {
                into[place] = numbers.times(subbase[i], c);
                i++;
                if (i == d) {
                    i = 0;
                    c = numbers.squared(c, d);
                }
            }
        }

        /** Products of the d elements of a subbase by powers 0, 1, .. of a. */
        void fillsTower(int[] into, int[] subbase, int d, int a) {
            int c = 1;
            int i = 0;
            for (int place = 0; place < numbers.degree; place++) {
                into[place] = numbers.times(subbase[i], c);
                i++;
                if (i == d) {
                    i = 0;
                    c = numbers.times(c, a);
                }
            }
        }

        /** At which places the product with an element has the trace 1, as bits. */
        int traceBits(int[] elements, int element) {
            int bits = 0;
            for (int j = 0; j < numbers.degree; j++) {
                bits |= numbers.tracedToOne(numbers.times(elements[j], element)) << j;
            }
            return bits;
        }

        void fillsDual(int[] into, int[] elements) {
            for (int a = 1; a < numbers.size; a++) {
                int bits = traceBits(elements, a);
                for (int j = 0; j < numbers.degree; j++) {
                    if (bits == 1 << j) {
                        into[j] = a;
                    }
                }
            }
        }

        /** The places at which c times some elements stand among others; false if one stands nowhere. */
        boolean fillsPlaces(int[] into, int[] some, int c, int[] others) {
            for (int i = 0; i < numbers.degree; i++) {
                into[i] = placeOf(others, numbers.times(c, some[i]));
                if (into[i] == NONE) {
                    return false;
                }
            }
            return true;
        }
    }

    /** What a deed changes: POLY and the four bases. */
    private static final class State {
        static final int SLOTS = 4;
        int modulus;
        final int[][] slots = new int[SLOTS][MOST_DEGREE];

        void start(int n) {
            modulus = n;
            for (int s = 0; s < SLOTS; s++) {
                for (int i = 0; i < MOST_DEGREE; i++) {
                    slots[s][i] = 1 << i;
                }
            }
        }

        void becomes(State other) {
            modulus = other.modulus;
            for (int s = 0; s < SLOTS; s++) {
                setsSlot(s, other.slots[s]);
            }
        }

        void setsSlot(int s, int[] elements) {
            System.arraycopy(elements, 0, slots[s], 0, MOST_DEGREE);
        }

        void copiesSlot(int s, int[] into) {
            System.arraycopy(slots[s], 0, into, 0, MOST_DEGREE);
        }

        boolean isPlain(int s, int degree) {
            for (int i = 0; i < degree; i++) {
                if (slots[s][i] != 1 << i) {
                    return false;
                }
            }
            return true;
        }
    }

    /** The states ahead of the latest deeds, in a ring that is made once. */
    private static final class Past {
        private static final int MOST = 8;
        private final State[] states = new State[MOST];
        private int next;
        int held;

        Past() {
            for (int k = 0; k < MOST; k++) {
                states[k] = new State();
            }
        }

        void remembers(State state) {
            states[next].becomes(state);
            next = (next + 1) & (MOST - 1);
            held = held < MOST ? held + 1 : MOST;
        }

        boolean restores(State state) {
            if (held == 0) {
                return false;
            }
            next = (next + MOST - 1) & (MOST - 1);
            held--;
            state.becomes(states[next]);
            return true;
        }
    }

    /** THE TEXT, how it is read, and how POLY is written. */
    private static final class Text {
        private static final int MOST = 100;
        private static final int BAD_SIGN = -21;
        private final int[] signs = new int[MOST];
        private final int[] line = new int[32];
        int length;
        private int position;

        boolean takes(int v) {
            if (length + 4 > MOST) {
                return false;
            }
            for (int shift = 24; shift >= 0; shift -= 8) {
                signs[length] = (v >> shift) & 255;
                length++;
            }
            return true;
        }

        boolean shortens(int n) {
            if (n < 0 || n > length) {
                return false;
            }
            length = n;
            return true;
        }

        void empties() {
            length = 0;
        }

        private int signAt(int p) {
            return p >= 0 && p < length ? signs[p] : NONE;
        }

        /** POLY, or -21 - p. */
        int polynomialRead() {
            position = 0;
            int found = 0;
            int ahead = MOST_DEGREE + 1;
            for (int k = 0; k <= MOST_DEGREE; k++) {
                int power = powerRead(ahead);
                if (power == NONE) {
                    return BAD_SIGN - position;
                }
                found |= 1 << power;
                ahead = power;
                if (position == length) {
                    return found;
                }
                if (ahead == 0 || signAt(position) != '+') {
                    return BAD_SIGN - position;
                }
                position++;
            }
            return BAD_SIGN - position;
        }

        /** The power at the position, below the one ahead; NONE, if the position has a sign that can't stand there. */
        private int powerRead(int ahead) {
            boolean first = ahead > MOST_DEGREE;
            if (signAt(position) == '1' && !first) {
                position++;
                return 0;
            }
            if (signAt(position) != 'x' || ahead < 2) {
                return NONE;
            }
            position++;
            int digit = signAt(position) - '0';
            if (digit >= 2 && digit < ahead && digit <= MOST_DEGREE) {
                position++;
                return digit;
            }
            boolean ends = position == length || signAt(position) == '+';
            return ends && !first ? 1 : NONE;
        }

        /** Reads m elements below size: 0, or -21 - p. */
        int elementsRead(int[] into, int m, int size) {
            position = 0;
            for (int i = 0; i < m; i++) {
                if (i > 0) {
                    if (signAt(position) != ',') {
                        return BAD_SIGN - position;
                    }
                    position++;
                }
                int value = numberRead();
                if (value == NONE) {
                    return BAD_SIGN - position;
                }
                if (value >= size) {
                    return BAD_SIGN - (position - 1);
                }
                into[i] = value;
            }
            return position == length ? 0 : BAD_SIGN - position;
        }

        private int numberRead() {
            if (!isDigit(signAt(position))) {
                return NONE;
            }
            int value = 0;
            int digits = 0;
            // behind a nought ahead no digit is taken
            while (digits < 3 && isDigit(signAt(position)) && (digits == 0 || value > 0)) {
                value = 10 * value + signAt(position) - '0';
                position++;
                digits++;
            }
            return value;
        }

        private static boolean isDigit(int sign) {
            return sign >= '0' && sign <= '9';
        }

        /** Sign k of a polynomial as it is read; k NONE: how many signs. */
        int signOf(int polynomial, int k) {
            int signsWritten = 0;
            for (int power = MOST_DEGREE; power >= 0; power--) {
                if (((polynomial >> power) & 1) != 0) {
                    if (signsWritten > 0) {
                        signsWritten = puts(signsWritten, '+');
                    }
                    signsWritten = puts(signsWritten, power == 0 ? '1' : 'x');
                    if (power > 1) {
                        signsWritten = puts(signsWritten, '0' + power);
                    }
                }
            }
            if (k == NONE) {
                return signsWritten;
            }
            return k >= 0 && k < signsWritten ? line[k] : NONE;
        }

        private int puts(int at, int sign) {
            if (at < 0 || at >= line.length) {
                return at;
            }
            line[at] = sign;
            return at + 1;
        }
    }

    /** The ROW; no call tells more than 16 numbers. */
    private static final class Row {
        final long[] numbers = new long[16];
        int length;

        void empties() {
            length = 0;
        }

        void puts(long number) {
            if (length < numbers.length) {
                numbers[length] = number;
                length++;
            }
        }

        void putsAll(int[] all, int n) {
            for (int i = 0; i < n && i < all.length; i++) {
                puts(all[i]);
            }
        }
    }
}
