import java.util.Arrays;

/**
 * Polynomials near the origin, modulo a prime: WEAK DIVISION with its unit, and what an ideal
 * leaves over there (LEADS, CORNERS, STAIR, REST, LENGTH, numbers of Milnor and Tjurina).
 *
 * All rows are made once, with the object: no call makes more than one small object.
 */
public final class StairsNear {
    public static final int NONE = -1;

    private static final int SLOTS = 8;
    private static final int SETS = 1 << SLOTS;
    private static final int MOST_VARIABLES = 3;
    private static final int MOST_TERMS = 60;
    private static final int MOST_EXPONENT = 30;
    private static final int MOST_WEIGHT = 4;
    private static final int GREATEST_PRIME = 32749;
    private static final int LOWEST_TERMS = 3;

    private static final int TAPE_BYTES = 200;
    private static final int FED_BYTES = 20;
    // A TERM takes at least two bytes, its sign or the tape's end with it.
    private static final int TAPE_TERMS = TAPE_BYTES / 2 + 1;
    // Five digits, three times x^30, a plus.
    private static final int TERM_BYTES = 18;

    private static final int MOST_STEPS = 40;
    private static final int MOST_DIVISORS = 20;
    private static final int STEP_ANSWERS = 5;
    private static final int TOO_LARGE = -2;

    private static final int MOST_BOUND = 24;
    // MONOMIALS of three VARIABLES of DEGREE below 8, and of DEGREE 8 too: no other ring has more.
    private static final int COLUMNS = 120;
    private static final int MONOMIALS = 165;
    private static final int IDEALS = 4;

    private final Ring ring;
    private final Poly[] slots;
    private final Tape tape;
    private final Text shown;
    private final Division division;
    private final Ideal[] ideals;
    private final Poly[] sources;
    private int nextIdeal;
    private Poly spare;
    private Poly product;
    private Poly productSpare;

    public StairsNear() {
        ring = new Ring();
        slots = polys(SLOTS);
        tape = new Tape();
        shown = new Text();
        division = new Division();
        ideals = new Ideal[IDEALS];
        for (int i = 0; i < IDEALS; i++) {
            ideals[i] = new Ideal();
        }
        sources = polys(MOST_VARIABLES + 1);
        spare = new Poly(MOST_TERMS);
        product = new Poly(MOST_TERMS * MOST_TERMS);
        productSpare = new Poly(MOST_TERMS * MOST_TERMS);
    }

    public boolean ring(int n, int p) {
        if (n < 1 || n > MOST_VARIABLES || !isPrime(p)) {
            return false;
        }
        ring.variables = n;
        ring.numbers = new Numbers(p);
        ring.weigh(1, 1, 1);
        for (Poly f : slots) {
            f.clear();
        }
        forgetWhatWasWorkedOut();
        return true;
    }

    public boolean weights(int x, int y, int z) {
        if (!isWeight(x) || !isWeight(y) || !isWeight(z)) {
            return false;
        }
        ring.weigh(x, y, z);
        for (Poly f : slots) {
            f.reorder(ring);
        }
        forgetWhatWasWorkedOut();
        return true;
    }

    public int feed(int a, int b, int c, int d, int e) {
        if (tape.size + FED_BYTES > TAPE_BYTES) {
            return NONE;
        }
        tape.take(a);
        tape.take(b);
        tape.take(c);
        tape.take(d);
        tape.take(e);
        return tape.size;
    }

    public boolean end(int n) {
        if (n < 0 || n > tape.size) {
            return false;
        }
        tape.size = n;
        return true;
    }

    public int poly(int slot) {
        tape.clearFault();
        if (isSlot(slot)) {
            tape.read(ring);
        }
        tape.size = 0;
        if (!isSlot(slot) || tape.fault != 0) {
            return NONE;
        }
        spare.become(tape.sum);
        return putSpare(slot);
    }

    public int fault(int what) {
        if (what == 0) {
            return tape.fault;
        }
        return what == 1 ? tape.place : NONE;
    }

    public int show(int slot) {
        if (!isSlot(slot)) {
            return NONE;
        }
        shown.write(slots[slot]);
        return shown.size;
    }

    public int out(int i) {
        return i >= 0 && i < shown.size ? shown.bytes[i] : NONE;
    }

    public int term(int slot, int i, int what) {
        if (!isSlot(slot)) {
            return NONE;
        }
        Poly f = slots[slot];
        if (i == NONE) {
            // The document names no what here: whatever it is, the answer is the same.
            return f.size;
        }
        if (i < 0 || i >= f.size || what < 0 || what > 4) {
            return NONE;
        }
        return what == 0 ? f.nums[i] : tellMono(f.monos[i], what - 1);
    }

    public int shape(int slot, int what) {
        if (!isSlot(slot)) {
            return NONE;
        }
        Poly f = slots[slot];
        switch (what) {
            case 0:
                return f.low();
            case 1:
                return f.high();
            case 2:
                return f.ecart();
            case 3:
                return f.low() == f.high() ? 1 : 0;
            case 4:
                return f.low() == 0 ? 1 : 0;
            default:
                return NONE;
        }
    }

    public int make(int how, int a, int b, int into) {
        if (!isSlot(a) || !isSlot(b) || !isSlot(into)) {
            return NONE;
        }
        boolean fits = false;
        if (how == 0) {
            fits = spare.mix(slots[a], 1, Mono.ONE, slots[b], ring.numbers);
        } else if (how == 1) {
            int minusOne = ring.numbers.negative(1);
            fits = spare.mix(slots[a], minusOne, Mono.ONE, slots[b], ring.numbers);
        } else if (how == 2) {
            fits = multiply(slots[a], slots[b]);
        }
        return fits ? putSpare(into) : NONE;
    }

    public int part(int slot, int v, int into) {
        if (!isSlot(slot) || !isSlot(into)) {
            return NONE;
        }
        if (v == LOWEST_TERMS) {
            spare.becomeLowest(slots[slot]);
        } else if (v >= 0 && v < ring.variables) {
            spare.becomeDerivative(slots[slot], v, ring);
        } else {
            return NONE;
        }
        return putSpare(into);
    }

    public int weak(int slot, int set) {
        if (!isSlot(slot) || !isSet(set)) {
            return NONE;
        }
        return division.divide(slots, slot, held(set), ring.numbers);
    }

    public int kept(int k, int into) {
        Poly what = division.keptOne(k);
        if (what == null || !isSlot(into)) {
            return NONE;
        }
        spare.become(what);
        return putSpare(into);
    }

    public int step(int i, int what) {
        if (!division.stands) {
            return NONE;
        }
        return i == NONE ? division.tellWhole(what) : division.tellStep(i, what);
    }

    public int corners(int set, int n) {
        if (!isSet(set) || !isBound(n)) {
            return NONE;
        }
        return idealOf(set).count(Ideal.CORNER, 0, ring.below[n]);
    }

    public int corner(int set, int n, int i, int what) {
        return tellOfKind(set, n, Ideal.CORNER, i, what);
    }

    public int stairs(int set, int n, int d) {
        if (!isSet(set) || !isBound(n) || d < NONE || d >= n) {
            return NONE;
        }
        int from = d == NONE ? 0 : ring.below[d];
        int to = d == NONE ? ring.below[n] : ring.below[d + 1];
        return idealOf(set).count(Ideal.STAIR, from, to);
    }

    public int stair(int set, int n, int i, int what) {
        return tellOfKind(set, n, Ideal.STAIR, i, what);
    }

    public int rest(int slot, int set, int n, int into) {
        if (!isSlot(slot) || !isSet(set) || !isBound(n) || !isSlot(into)) {
            return NONE;
        }
        boolean fits = idealOf(set).leaveOver(slots[slot], n, spare, ring);
        return fits ? putSpare(into) : NONE;
    }

    public int length(int set, int what) {
        if (!isSet(set) || what < 0 || what > 1) {
            return NONE;
        }
        Ideal ideal = idealOf(set);
        return what == 0 ? ideal.settledAt(ring) : ideal.size(ring);
    }

    public int number(int slot, int what) {
        if (!isSlot(slot) || what < 0 || what > 1) {
            return NONE;
        }
        int taken = 0;
        for (int v = 0; v < ring.variables; v++) {
            sources[v].becomeDerivative(slots[slot], v, ring);
            taken |= 1 << v;
        }
        if (what == 1) {
            sources[MOST_VARIABLES].become(slots[slot]);
            taken |= 1 << MOST_VARIABLES;
        }
        Ideal ideal = oldestIdeal();
        ideal.build(sources, taken, ring);
        return ideal.size(ring);
    }

    public int all(int n, int what) {
        if (!isBound(n) || what < 0 || what > 1) {
            return NONE;
        }
        return what == 0 ? ring.below[n] : ring.below[n + 1] - ring.below[n];
    }

    public int look(int what) {
        switch (what) {
            case 0:
                return ring.variables;
            case 1:
                return ring.numbers.prime;
            case 2:
            case 3:
            case 4:
                return ring.weights[what - 2];
            case 5:
                return ring.bound();
            case 6:
                return held(SETS - 1);
            case 7:
                return tape.size;
            case 8:
                return division.stands ? 1 : 0;
            case 9:
                return division.stands ? division.set : NONE;
            case 10:
                return division.stands ? division.slot : NONE;
            default:
                return NONE;
        }
    }

    private static Poly[] polys(int many) {
        Poly[] made = new Poly[Math.max(many, 0)];
        for (int i = 0; i < made.length; i++) {
            made[i] = new Poly(MOST_TERMS);
        }
        return made;
    }

    private static boolean isPrime(int p) {
        if (p < 2 || p > GREATEST_PRIME) {
            return false;
        }
        for (int d = 2; d * d <= p; d++) {
            if (p % d == 0) {
                return false;
            }
        }
        return true;
    }

    private static boolean isWeight(int w) {
        return w >= 1 && w <= MOST_WEIGHT;
    }

    private static boolean isSlot(int slot) {
        return slot >= 0 && slot < SLOTS;
    }

    private static boolean isSet(int set) {
        return set >= 0 && set < SETS;
    }

    private boolean isBound(int n) {
        return n >= 1 && n <= ring.bound();
    }

    /** Those of a SET that do not hold 0. */
    private int held(int set) {
        int bits = 0;
        for (int k = 0; k < SLOTS; k++) {
            if ((set >> k & 1) == 1 && slots[k].size > 0) {
                bits |= 1 << k;
            }
        }
        return bits;
    }

    /** What stands in spare comes into a SLOT: how many TERMS. */
    private int putSpare(int into) {
        Poly old = slots[into];
        slots[into] = spare;
        spare = old;
        for (Ideal ideal : ideals) {
            if ((ideal.set >> into & 1) == 1) {
                ideal.set = NONE;
            }
        }
        return slots[into].size;
    }

    private void forgetWhatWasWorkedOut() {
        division.stands = false;
        for (Ideal ideal : ideals) {
            ideal.set = NONE;
        }
    }

    /** The product comes into spare; false if it can't. */
    private boolean multiply(Poly a, Poly b) {
        product.clear();
        for (int i = 0; i < a.size; i++) {
            // An EXPONENT above 30 in one row stands in the product: no zero divisors modulo a prime.
            if (!productSpare.mix(product, a.nums[i], a.monos[i], b, ring.numbers)) {
                return false;
            }
            Poly sum = productSpare;
            productSpare = product;
            product = sum;
        }
        if (product.size > MOST_TERMS) {
            return false;
        }
        spare.become(product);
        return true;
    }

    private Ideal oldestIdeal() {
        Ideal ideal = ideals[nextIdeal];
        nextIdeal = nextIdeal + 1 < IDEALS ? nextIdeal + 1 : 0;
        ideal.set = NONE;
        return ideal;
    }

    private Ideal idealOf(int set) {
        int bits = held(set);
        for (Ideal ideal : ideals) {
            if (ideal.set == bits) {
                return ideal;
            }
        }
        Ideal ideal = oldestIdeal();
        ideal.build(slots, bits, ring);
        ideal.set = bits;
        return ideal;
    }

    private int tellOfKind(int set, int n, int kind, int i, int what) {
        if (!isSet(set) || !isBound(n) || what < 0 || what > 3) {
            return NONE;
        }
        int column = idealOf(set).find(kind, ring.below[n], i);
        return column == NONE ? NONE : tellMono(ring.monos[column], what);
    }

    /** What 0, 1, 2 EXPONENTS, 3 DEGREE. */
    private static int tellMono(int mono, int what) {
        return what == 3 ? Mono.degree(mono) : Mono.exponent(mono, what);
    }

    /**
     * A MONOMIAL is one int: its DEGREE, and below that its EXPONENTS, six bits each, all turned
     * over. So ORDER is the order of the ints, and a product is a sum (less ONE). Six bits have
     * room for the EXPONENTS of a product of two.
     */
    private static final class Mono {
        private static final int FIELD = 6;
        private static final int FIELDS = FIELD * MOST_VARIABLES;
        private static final int FULL = (1 << FIELD) - 1;
        private static final int EACH = 1 << 2 * FIELD | 1 << FIELD | 1;
        static final int ONE = (1 << FIELDS) - 1;
        static final int BEYOND_ALL = Integer.MAX_VALUE;

        static int degree(int mono) {
            return mono >> FIELDS;
        }

        static int exponent(int mono, int v) {
            return (~mono & ONE) >> FIELD * (MOST_VARIABLES - 1 - v) & FULL;
        }

        static int of(int degree, int x, int y, int z) {
            return (degree << FIELDS) + ONE - (x << 2 * FIELD | y << FIELD | z);
        }

        static int times(int a, int b) {
            return a + b - ONE;
        }

        /** a by b, that divides it. */
        static int by(int a, int b) {
            return a - b + ONE;
        }

        static boolean divides(int a, int b) {
            return exponent(a, 0) <= exponent(b, 0) && exponent(a, 1) <= exponent(b, 1)
                && exponent(a, 2) <= exponent(b, 2);
        }

        /**
         * One more lifts an EXPONENT above 30, and no other, into its field's highest bit. Told by
         * bits at once: three calls of exponent() here would make weak() nine calls deep.
         */
        static boolean isTooHigh(int mono) {
            return ((~mono & ONE) + EACH & EACH * (MOST_EXPONENT + 2)) != 0;
        }
    }

    /** Numbers modulo a prime, 0 .. prime less 1. */
    private static final class Numbers {
        final int prime;

        Numbers(int prime) {
            this.prime = Math.max(prime, 2);
        }

        int reduced(int a) {
            return a % prime;
        }

        int negative(int a) {
            return a == 0 ? 0 : prime - a;
        }

        int times(int a, int b) {
            return a * b % prime;
        }

        /** a + b c: below 32749 squared, which an int holds. */
        int plusTimes(int a, int b, int c) {
            return (a + b * c) % prime;
        }

        int inverse(int a) {
            int power = 1;
            int square = a;
            for (int e = prime - 2; e > 0; e >>= 1) {
                if ((e & 1) == 1) {
                    power = times(power, square);
                }
                square = times(square, square);
            }
            return power;
        }
    }

    /** The RING, and its MONOMIALS of DEGREE up to BOUND by ORDER. */
    private static final class Ring {
        int variables = 2;
        Numbers numbers = new Numbers(32003);
        final int[] weights = new int[MOST_VARIABLES];
        final int[] monos = new int[MONOMIALS];
        /** How many of these have a DEGREE below the index. */
        final int[] below = new int[MOST_BOUND + 2];
        /** Where in these the product with a VARIABLE stands, NONE from DEGREE BOUND on. */
        final int[][] next = new int[MOST_VARIABLES][COLUMNS];
        private int listed;

        Ring() {
            weigh(1, 1, 1);
        }

        int bound() {
            return variables == 1 ? MOST_BOUND : variables == 2 ? 12 : 8;
        }

        int width() {
            return below[bound()];
        }

        void weigh(int x, int y, int z) {
            weights[0] = x;
            weights[1] = y;
            weights[2] = z;
            listed = 0;
            for (int d = 0; d <= bound(); d++) {
                below[d] = listed;
                listDegree(d);
            }
            below[bound() + 1] = listed;
            for (int v = 0; v < variables; v++) {
                linkProducts(v);
            }
        }

        int greatestWeight() {
            int most = 0;
            for (int v = 0; v < variables; v++) {
                most = Math.max(most, weights[v]);
            }
            return most;
        }

        int mono(int x, int y, int z) {
            return Mono.of(x * weights[0] + y * weights[1] + z * weights[2], x, y, z);
        }

        int variable(int v) {
            return mono(v == 0 ? 1 : 0, v == 1 ? 1 : 0, v == 2 ? 1 : 0);
        }

        /** The column of a MONOMIAL of DEGREE below BOUND, NONE for others. */
        int column(int mono) {
            int from = 0;
            int to = Math.min(width(), COLUMNS);
            while (from < to) {
                int middle = from + to >>> 1;
                if (monos[middle] < mono) {
                    from = middle + 1;
                } else {
                    to = middle;
                }
            }
            return from < width() && monos[from] == mono ? from : NONE;
        }

        private void listDegree(int d) {
            for (int x = d; x >= 0; x--) {
                for (int y = variables > 1 ? d : 0; y >= 0; y--) {
                    for (int z = variables > 2 ? d : 0; z >= 0; z--) {
                        int mono = mono(x, y, z);
                        if (Mono.degree(mono) == d && listed < MONOMIALS) {
                            monos[listed] = mono;
                            listed++;
                        }
                    }
                }
            }
        }

        private void linkProducts(int v) {
            for (int c = 0; c < width() && c < COLUMNS; c++) {
                next[v][c] = column(Mono.times(monos[c], variable(v)));
            }
        }
    }

    /** A POLYNOMIAL: its TERMS by ORDER. */
    private static final class Poly {
        final int[] monos;
        final int[] nums;
        int size;

        Poly(int room) {
            int most = Math.max(room, 0);
            monos = new int[most];
            nums = new int[most];
        }

        void clear() {
            size = 0;
        }

        int low() {
            return size > 0 ? Mono.degree(monos[0]) : NONE;
        }

        int high() {
            return size > 0 ? Mono.degree(monos[size - 1]) : NONE;
        }

        int ecart() {
            return size > 0 ? high() - low() : NONE;
        }

        /** False if it has no room, or an EXPONENT is too high. */
        boolean append(int mono, int num) {
            if (size >= monos.length || Mono.isTooHigh(mono)) {
                return false;
            }
            monos[size] = mono;
            nums[size] = num;
            size++;
            return true;
        }

        void become(Poly f) {
            size = Math.min(f.size, monos.length);
            System.arraycopy(f.monos, 0, monos, 0, size);
            System.arraycopy(f.nums, 0, nums, 0, size);
        }

        void becomeNumber(int num) {
            size = 0;
            append(Mono.ONE, num);
        }

        void becomeLowest(Poly f) {
            size = 0;
            for (int i = 0; i < f.size && Mono.degree(f.monos[i]) == f.low(); i++) {
                append(f.monos[i], f.nums[i]);
            }
        }

        void becomeDerivative(Poly f, int v, Ring ring) {
            size = 0;
            int variable = ring.variable(v);
            for (int i = 0; i < f.size; i++) {
                int num = ring.numbers.times(f.nums[i], Mono.exponent(f.monos[i], v));
                if (num != 0) {
                    append(Mono.by(f.monos[i], variable), num);
                }
            }
        }

        /** This is f + num mono g then; false, and it is of no use, if it can't be. */
        boolean mix(Poly f, int num, int mono, Poly g, Numbers numbers) {
            size = 0;
            int i = 0;
            int j = 0;
            for (int turn = f.size + g.size; turn > 0 && (i < f.size || j < g.size); turn--) {
                int left = i < f.size ? f.monos[i] : Mono.BEYOND_ALL;
                int right = j < g.size ? Mono.times(g.monos[j], mono) : Mono.BEYOND_ALL;
                int sum = 0;
                if (left <= right && i < f.size) {
                    sum = f.nums[i];
                    i++;
                }
                if (right <= left && j < g.size) {
                    sum = numbers.plusTimes(sum, num, g.nums[j]);
                    j++;
                }
                if (sum != 0 && !append(Math.min(left, right), sum)) {
                    return false;
                }
            }
            return true;
        }

        /** One TERM more is added up. */
        void add(int mono, int num, Numbers numbers) {
            int at = 0;
            while (at < size && monos[at] < mono) {
                at++;
            }
            if (at < size && monos[at] == mono) {
                nums[at] = numbers.plusTimes(nums[at], 1, num);
            } else {
                insert(at, mono, num);
            }
        }

        void dropZeros() {
            int left = 0;
            for (int i = 0; i < size; i++) {
                if (nums[i] != 0) {
                    monos[left] = monos[i];
                    nums[left] = nums[i];
                    left++;
                }
            }
            size = left;
        }

        /** WEIGHTS have changed: DEGREES and ORDER are told anew. */
        void reorder(Ring ring) {
            int many = size;
            size = 0;
            for (int i = 0; i < many; i++) {
                int old = monos[i];
                int x = Mono.exponent(old, 0);
                int y = Mono.exponent(old, 1);
                int z = Mono.exponent(old, 2);
                add(ring.mono(x, y, z), nums[i], ring.numbers);
            }
        }

        private void insert(int at, int mono, int num) {
            if (size >= monos.length) {
                return;
            }
            for (int i = size; i > at && i > 0; i--) {
                monos[i] = monos[i - 1];
                nums[i] = nums[i - 1];
            }
            if (at >= 0 && at <= size) {
                monos[at] = mono;
                nums[at] = num;
                size++;
            }
        }
    }

    /** THE TAPE and its reader. */
    private static final class Tape {
        private static final int NO_BYTE = -1;
        private static final int MISPLACED = 1;
        private static final int TOO_HIGH = 2;
        private static final int TOO_MANY = 3;

        final int[] bytes = new int[TAPE_BYTES];
        int size;
        int fault;
        int place = NONE;
        final Poly sum = new Poly(TAPE_TERMS);
        private int at;
        private int num;
        private final int[] exponents = new int[MOST_VARIABLES];

        void take(int four) {
            for (int shift = 24; shift >= 0 && size < TAPE_BYTES; shift -= 8) {
                bytes[size] = four >>> shift & 255;
                size++;
            }
        }

        void clearFault() {
            fault = 0;
            place = NONE;
        }

        /** POLY: what is read stands in sum, or a FAULT is told. */
        void read(Ring ring) {
            at = 0;
            sum.clear();
            int sign = ahead() == '-' ? '-' : '+';
            if (sign == '-') {
                at++;
            }
            for (int turn = 0; turn < TAPE_TERMS && fault == 0 && sign != NO_BYTE; turn++) {
                readSummand(sign == '-', ring);
                sign = ahead();
                if (sign == '+' || sign == '-') {
                    at++;
                } else if (sign != NO_BYTE) {
                    blame(MISPLACED, at);
                }
            }
            sum.dropZeros();
            if (sum.size > MOST_TERMS) {
                blame(TOO_MANY, size);
            }
        }

        private void readSummand(boolean minus, Ring ring) {
            num = 1;
            Arrays.fill(exponents, 0);
            if (!factorIsAhead(ring)) {
                blame(MISPLACED, at);
            }
            for (int turn = 0; turn < TAPE_BYTES && fault == 0 && factorIsAhead(ring); turn++) {
                readFactor(ring);
            }
            int mono = ring.mono(exponents[0], exponents[1], exponents[2]);
            if (fault == 0) {
                sum.add(mono, minus ? ring.numbers.negative(num) : num, ring.numbers);
            }
        }

        private boolean factorIsAhead(Ring ring) {
            int next = ahead();
            return isDigit(next) || isVariable(next, ring);
        }

        private void readFactor(Ring ring) {
            int first = ahead();
            if (isDigit(first)) {
                num = ring.numbers.times(num, ring.numbers.reduced(readDigits(5)));
            } else if (isVariable(first, ring)) {
                readPower(first - 'x');
            }
        }

        private void readPower(int v) {
            int begin = at;
            at++;
            int exponent = 1;
            if (ahead() == '^') {
                at++;
                if (!isDigit(ahead())) {
                    blame(MISPLACED, at);
                }
                exponent = readDigits(2);
            }
            if (v >= 0 && v < MOST_VARIABLES) {
                exponents[v] += exponent;
                if (exponents[v] > MOST_EXPONENT) {
                    blame(TOO_HIGH, begin);
                }
            }
        }

        private int readDigits(int most) {
            int begin = at;
            int value = 0;
            while (at < size && at < TAPE_BYTES && isDigit(bytes[at])) {
                if (at - begin < most) {
                    value = 10 * value + bytes[at] - '0';
                }
                at++;
            }
            if (at - begin > most) {
                blame(MISPLACED, begin);
            }
            return value;
        }

        /** The next byte that is no blank, NO_BYTE at the end. */
        private int ahead() {
            while (at < size && at < TAPE_BYTES && bytes[at] == ' ') {
                at++;
            }
            return at < size && at < TAPE_BYTES ? bytes[at] : NO_BYTE;
        }

        /** Reading goes from left to right: the first FAULT found stays. */
        private void blame(int which, int where) {
            if (fault == 0) {
                fault = which;
                place = where;
            }
        }

        private static boolean isDigit(int b) {
            return b >= '0' && b <= '9';
        }

        private static boolean isVariable(int b, Ring ring) {
            return b >= 'x' && b < 'x' + ring.variables;
        }
    }

    /** What is SHOWN. */
    private static final class Text {
        final int[] bytes = new int[MOST_TERMS * TERM_BYTES];
        int size;

        void write(Poly f) {
            size = 0;
            if (f.size == 0) {
                put('0');
            }
            for (int i = 0; i < f.size; i++) {
                if (i > 0) {
                    put('+');
                }
                int mono = f.monos[i];
                if (f.nums[i] != 1 || mono == Mono.ONE) {
                    putNumber(f.nums[i]);
                }
                for (int v = 0; v < MOST_VARIABLES; v++) {
                    putPower(v, Mono.exponent(mono, v));
                }
            }
        }

        private void putPower(int v, int exponent) {
            if (exponent > 0) {
                put('x' + v);
            }
            if (exponent > 1) {
                put('^');
                putNumber(exponent);
            }
        }

        private void putNumber(int value) {
            for (int scale = 10000; scale > 0; scale /= 10) {
                if (value >= scale) {
                    put('0' + value / scale % 10);
                }
            }
        }

        private void put(int b) {
            if (size < bytes.length) {
                bytes[size] = b;
                size++;
            }
        }
    }

    /** value is unit times the divided one, less all shares times their SLOTS' POLYNOMIALS. */
    private static final class Equation {
        final Poly value = new Poly(MOST_TERMS);
        final Poly unit = new Poly(MOST_TERMS);
        final Poly[] shares = polys(SLOTS);

        void begin(Poly f) {
            value.become(f);
            unit.clear();
            for (Poly share : shares) {
                share.clear();
            }
        }

        void become(Equation e) {
            value.become(e.value);
            unit.become(e.unit);
            for (int k = 0; k < SLOTS; k++) {
                shares[k].become(e.shares[k]);
            }
        }

        /** This is a + num mono b then, on both sides; false if it is TOO LARGE. */
        boolean mix(Equation a, int num, int mono, Equation b, Numbers numbers) {
            boolean fits = value.mix(a.value, num, mono, b.value, numbers)
                && unit.mix(a.unit, num, mono, b.unit, numbers);
            for (int k = 0; k < SLOTS && fits; k++) {
                fits = shares[k].mix(a.shares[k], num, mono, b.shares[k], numbers);
            }
            return fits;
        }
    }

    /** The latest WEAK DIVISION. */
    private static final class Division {
        boolean stands;
        int set;
        int slot;
        private int steps;
        private int divisors;
        /** T: the SET's, then those that came. */
        private final Equation[] equations = new Equation[MOST_DIVISORS];
        private final int[][] told = new int[MOST_STEPS][STEP_ANSWERS];
        private Equation now = new Equation();
        private Equation after = new Equation();

        Division() {
            for (int i = 0; i < MOST_DIVISORS; i++) {
                equations[i] = new Equation();
            }
        }

        /** How many STEPS, or TOO_LARGE. */
        int divide(Poly[] slots, int which, int bits, Numbers numbers) {
            begin(slots, which, bits, numbers);
            int best = bestDivisor();
            for (int i = 0; i < MOST_STEPS && best != NONE && stepBy(best, numbers); i++) {
                best = bestDivisor();
            }
            stands = best == NONE;
            return stands ? steps : TOO_LARGE;
        }

        /** h (0), u (1), a q (from 2 on); null if there is none such. */
        Poly keptOne(int k) {
            if (!stands || k < 0 || k >= SLOTS + 2) {
                return null;
            }
            if (k < 2) {
                return k == 0 ? now.value : now.unit;
            }
            return (set >> k - 2 & 1) == 1 ? now.shares[k - 2] : null;
        }

        int tellStep(int i, int what) {
            if (i < 0 || i >= steps || i >= MOST_STEPS || what < 0 || what >= STEP_ANSWERS) {
                return NONE;
            }
            return told[i][what];
        }

        int tellWhole(int what) {
            if (what == 0) {
                return steps;
            }
            if (what == 1) {
                return divisors;
            }
            // Equation.mix() does the same on both sides, and exactly: the equation always holds.
            return what == 2 ? 1 : NONE;
        }

        private void begin(Poly[] slots, int which, int bits, Numbers numbers) {
            set = bits;
            slot = which;
            steps = 0;
            divisors = 0;
            for (int k = 0; k < SLOTS && k < slots.length; k++) {
                if ((bits >> k & 1) == 1) {
                    // The SET's own ones are told like those that come: g is 0 f - (-1) g.
                    equations[divisors].begin(slots[k]);
                    equations[divisors].shares[k].becomeNumber(numbers.negative(1));
                    divisors++;
                }
            }
            if (which >= 0 && which < slots.length) {
                now.begin(slots[which]);
                now.unit.becomeNumber(1);
            }
        }

        /** Of T the one to divide by, NONE if there is none. */
        private int bestDivisor() {
            if (now.value.size == 0) {
                return NONE;
            }
            int best = NONE;
            int least = 0;
            for (int i = 0; i < divisors && i < MOST_DIVISORS; i++) {
                Poly t = equations[i].value;
                boolean divides = t.size > 0 && Mono.divides(t.monos[0], now.value.monos[0]);
                if (divides && (best == NONE || t.ecart() < least)) {
                    best = i;
                    least = t.ecart();
                }
            }
            return best;
        }

        /** False if it is TOO LARGE. */
        private boolean stepBy(int which, Numbers numbers) {
            if (which < 0 || which >= divisors || steps >= MOST_STEPS) {
                return false;
            }
            Equation by = equations[which];
            boolean comes = by.value.ecart() > now.value.ecart();
            if (comes && divisors >= MOST_DIVISORS) {
                return false;
            }
            told[steps][0] = which;
            told[steps][1] = by.value.ecart();
            told[steps][2] = now.value.ecart();
            told[steps][3] = comes ? 1 : 0;
            told[steps][4] = now.value.low();
            steps++;
            if (comes) {
                equations[divisors].become(now);
                divisors++;
            }
            return subtract(by, numbers);
        }

        private boolean subtract(Equation by, Numbers numbers) {
            if (now.value.size == 0 || by.value.size == 0) {
                return false;
            }
            int times = numbers.times(now.value.nums[0], numbers.inverse(by.value.nums[0]));
            int mono = Mono.by(now.value.monos[0], by.value.monos[0]);
            boolean fits = after.mix(now, numbers.negative(times), mono, by, numbers);
            Equation old = now;
            now = after;
            after = old;
            return fits;
        }
    }

    /**
     * What POLYNOMIALS make, cut off at DEGREE BOUND: one row for each LEAD, 1 there and 0 ahead of
     * it. A smaller N needs no other rows: its MONOMIALS are the first columns, and an element of
     * I with its LEAD among these keeps it however late it is cut off.
     */
    private static final class Ideal {
        static final int STAIR = 0;
        static final int LEAD = 1;
        static final int CORNER = 2;

        /** Of which SLOTS it was built, NONE if these have changed since. */
        int set = NONE;
        private final int[][] rows = new int[COLUMNS][COLUMNS];
        private final int[] kinds = new int[COLUMNS];
        private final int[] line = new int[COLUMNS];

        void build(Poly[] from, int bits, Ring ring) {
            int width = Math.min(ring.width(), COLUMNS);
            Arrays.fill(kinds, STAIR);
            for (int k = 0; k < from.length; k++) {
                if ((bits >> k & 1) == 1) {
                    load(from[k], ring);
                    insertLine(width, ring.numbers);
                }
            }
            // A product's LEAD stands behind its row's, so one way through meets all new rows.
            for (int c = 0; c < width; c++) {
                for (int v = 0; v < ring.variables && kinds[c] != STAIR; v++) {
                    loadProduct(rows[c], ring.next[v], width);
                    insertLine(width, ring.numbers);
                }
            }
            for (int c = 0; c < width; c++) {
                for (int v = 0; v < ring.variables && kinds[c] != STAIR; v++) {
                    markNoCorner(ring.next[v][c]);
                }
            }
        }

        int count(int kind, int from, int to) {
            int many = 0;
            for (int c = Math.max(from, 0); c < to && c < COLUMNS; c++) {
                if (isOf(kind, c)) {
                    many++;
                }
            }
            return many;
        }

        /** The column of the i-th of a kind ahead of a column, NONE if there is none. */
        int find(int kind, int to, int i) {
            int left = i;
            for (int c = 0; c < to && c < COLUMNS; c++) {
                if (isOf(kind, c)) {
                    if (left == 0) {
                        return c;
                    }
                    left--;
                }
            }
            return NONE;
        }

        /** The least N at which it is SETTLED, NONE without. */
        int settledAt(Ring ring) {
            int most = ring.greatestWeight();
            for (int n = 1; n <= ring.bound(); n++) {
                if (count(STAIR, ring.below[Math.max(n - most, 0)], ring.below[n]) == 0) {
                    return n;
                }
            }
            return NONE;
        }

        /** LENGTH, NONE without. */
        int size(Ring ring) {
            int n = settledAt(ring);
            return n == NONE ? NONE : count(STAIR, 0, ring.below[n]);
        }

        /** The REST of f at N comes into a POLYNOMIAL; false if it has no room there. */
        boolean leaveOver(Poly f, int n, Poly into, Ring ring) {
            int to = Math.min(ring.below[n], COLUMNS);
            load(f, ring);
            into.clear();
            for (int c = 0; c < to; c++) {
                if (line[c] != 0 && kinds[c] != STAIR) {
                    subtractRow(c, to, ring.numbers);
                } else if (line[c] != 0 && !into.append(ring.monos[c], line[c])) {
                    return false;
                }
            }
            return true;
        }

        private boolean isOf(int kind, int c) {
            return kinds[c] == kind;
        }

        private void load(Poly f, Ring ring) {
            Arrays.fill(line, 0);
            for (int i = 0; i < f.size; i++) {
                int c = ring.column(f.monos[i]);
                if (c >= 0 && c < COLUMNS) {
                    line[c] = f.nums[i];
                }
            }
        }

        private void loadProduct(int[] row, int[] next, int width) {
            Arrays.fill(line, 0);
            for (int c = 0; c < width && c < row.length && c < next.length; c++) {
                int to = next[c];
                if (to >= 0 && to < COLUMNS) {
                    line[to] = row[c];
                }
            }
        }

        /** The line becomes a row, if the rows do not make it already. */
        private void insertLine(int width, Numbers numbers) {
            for (int c = 0; c < width; c++) {
                if (line[c] != 0 && kinds[c] == STAIR) {
                    storeRow(c, width, numbers);
                    return;
                }
                if (line[c] != 0) {
                    subtractRow(c, width, numbers);
                }
            }
        }

        private void storeRow(int lead, int width, Numbers numbers) {
            int inverse = numbers.inverse(line[lead]);
            // Ahead of its LEAD a row is never written: it is 0 there.
            for (int c = lead; c < width; c++) {
                rows[lead][c] = numbers.times(line[c], inverse);
            }
            kinds[lead] = CORNER;
        }

        private void subtractRow(int lead, int width, Numbers numbers) {
            int[] row = rows[lead];
            int times = numbers.negative(line[lead]);
            for (int c = lead; c < width; c++) {
                if (row[c] != 0) {
                    line[c] = numbers.plusTimes(line[c], times, row[c]);
                }
            }
        }

        private void markNoCorner(int c) {
            if (c >= 0 && c < COLUMNS) {
                kinds[c] = LEAD;
            }
        }
    }
}
