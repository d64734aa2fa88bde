import java.util.TreeMap;

/** Promises 14 (weak), 15 (kept), 16 (step), and item 2. */
public final class WeakTest {
    private static final int LEAST = Integer.MIN_VALUE;
    private static final int MOST = Integer.MAX_VALUE;
    private static final int[] NO_SLOTS = {LEAST, -8, -1, 8, 9, 256, MOST};
    private static final int[] NO_SETS = {LEAST, -256, -1, 256, 257, 258, MOST};

    public static void main(String[] args) {
        dividedBySlots();
        untilZero();
        untilNoLeadDivides();
        leastEcart();
        firstOfLikeOnes();
        comesIntoT();
        aStep();
        equations();
        atFirst();
        comesWithItsOwn();
        takesItsOwnWithIt();
        fortySteps();
        twentyInT();
        sixtyTermsOfH();
        sixtyTermsOnTheWay();
        sixtyTermsOfU();
        sixtyTermsOfAQ();
        thirtyOfH();
        thirtyOfU();
        thirtyOfAQ();
        weakTellsSteps();
        weakTooLarge();
        weakOfNone();
        keptTells();
        keptOfNone();
        keptStays();
        stepTells();
        stepTellsTheWhole();
        stepOfNone();
        Check.finish();
    }

    /** The first stands in SLOT 0, the others in 1 and so on. */
    private static void hold(Near x, int n, int p, String... texts) {
        x.ring(n, p);
        for (int slot = 0; slot < texts.length; slot++) {
            Check.due("\"" + texts[slot] + "\" is read", x.read(slot, texts[slot]) >= 0, true);
        }
    }

    private static void kept(Near x, int k, String want) {
        int many = x.kept(k, 7);
        Check.due("kept(" + k + ")", x.shown(7), want);
        Check.due("how many", many, x.term(7, -1, 0));
    }

    private static void steps(Near x, int[]... want) {
        Check.due("step(-1, 0)", x.step(-1, 0), want.length);
        for (int i = 0; i < want.length; i++) {
            for (int what = 0; what < 5; what++) {
                Check.due("step(" + i + ", " + what + ")", x.step(i, what), want[i][what]);
            }
        }
    }

    private static int[] step(int... five) {
        return five;
    }

    // ---- item 2

    private static void dividedBySlots() {
        Near x = Check.says("Item 2", "WEAK DIVISION of f by a SET of SLOTS: h is f, T the POLYNOMIALS of the SET, that are not 0, by SLOTS.");
        hold(x, 2, 101, "x+xy^3", "x-x", "y", "0", "xy^3");
        x.read(6, "x");
        // T: y (SLOT 2), xy^3 (4), x (6); of SLOT 0 nothing.
        Check.due("weak(0, 254)", x.weak(0, 254), 2);
        steps(x, step(2, 0, 3, 0, 1), step(0, 0, 0, 0, 4));
        Check.due("T", x.step(-1, 1), 3);
        kept(x, 4, "xy^2");
        kept(x, 8, "1");
        Check.due("SLOT 0 is in its SET", x.weak(0, 1), 1);
        kept(x, 2, "1");
    }

    private static void untilZero() {
        Near x = Check.says("Item 2", "As long as h is not 0");
        hold(x, 2, 101, "0", "x", "1");
        Check.due("0 by x and 1", x.weak(0, 6), 0);
        kept(x, 0, "0");
        kept(x, 1, "1");
        Check.due("x by 1: 0 then", x.weak(1, 4), 1);
        kept(x, 0, "0");
    }

    private static void untilNoLeadDivides() {
        Near x = Check.says("Item 2", "and there is one in T whose LEAD divides h's:");
        hold(x, 3, 101, "x+y^5", "x^2", "y", "z+x", "xy");
        Check.due("x by x^2, y, xy", x.weak(0, 2 + 4 + 16), 0);
        kept(x, 0, "x+y^5");
        Check.due("by none", x.weak(0, 0), 0);
        kept(x, 0, "x+y^5");
        Check.due("by x + z", x.weak(0, 8), 1);
        // Its LEAD divides: x, not z.
        kept(x, 0, "100z+y^5");
        x.weights(2, 2, 1);
        Check.due("by z + x", x.weak(0, 8), 0);
        x.read(5, "x^30y^30z^30");
        x.read(6, "x^30y^30z^30");
        Check.due("all that can be, by itself", x.weak(5, 64), 1);
        x.read(6, "x^29y^30z^30");
        Check.due("by one less", x.weak(5, 64), 1);
        x.read(5, "x^30y^29z^30");
        Check.due("y is one too many", x.weak(5, 64), 0);
        x.read(5, "x^30y^30z^29");
        Check.due("z is one too many", x.weak(5, 64), 0);
        x.read(5, "x^28y^30z^30");
        Check.due("x is one too many", x.weak(5, 64), 0);
    }

    private static void leastEcart() {
        Near x = Check.says("Item 2", "of these that of the least ECART,");
        hold(x, 2, 101, "x^2+x^3+x^4", "x+x^4", "x+y^3", "x^2+y^3");
        Check.due("weak(0, 14)", x.weak(0, 14), 2);
        steps(x, step(2, 1, 2, 0, 2), step(2, 1, 1, 0, 3));
        kept(x, 0, "100y^3+x^4+100xy^3");
        kept(x, 1, "1");
        kept(x, 3, "0");
        kept(x, 4, "0");
        kept(x, 5, "1+x");
        // By other WEIGHTS other ECARTS: 9, 3, 0.
        x.weights(3, 2, 1);
        x.weak(0, 14);
        Check.due("by 3, 2", x.step(0, 0), 2);
        Check.due("by 3, 2", x.step(0, 1), 0);
        x.weights(1, 3, 1);
        x.weak(0, 14);
        Check.due("by 1, 3", x.step(0, 0), 0);
        Check.due("by 1, 3", x.step(0, 1), 3);
    }

    private static void firstOfLikeOnes() {
        Near x = Check.says("Item 2", "of like ones the one that is first in T: t.");
        hold(x, 2, 101, "x^3", "0", "x^2+y^3", "0", "x+y^2", "0", "3x");
        Check.due("weak(0, 20)", x.weak(0, 20), 2);
        steps(x, step(0, 1, 0, 1, 3), step(1, 1, 0, 1, 4));
        kept(x, 0, "y^5");
        kept(x, 1, "1");
        kept(x, 4, "x");
        kept(x, 6, "100y^3");
        Check.due("weak(0, 80)", x.weak(0, 80), 1);
        steps(x, step(1, 0, 0, 0, 3));
        kept(x, 8, "34x^2");
        kept(x, 6, "0");
        x.read(1, "x^2");
        Check.due("like 3x", x.weak(0, 66), 1);
        kept(x, 3, "x");
        kept(x, 8, "0");
        // One that came is behind all: x of SLOT 3 is taken, not x^2 that came.
        hold(x, 2, 101, "x^2", "x^2+y^3+x^2y^3", "y^9", "y^3");
        x.weak(0, 2 + 8);
        steps(x, step(0, 3, 0, 1, 2), step(1, 0, 2, 0, 3), step(1, 0, 0, 0, 5));
    }

    private static void comesIntoT() {
        Near x = Check.says("Item 2", "Is t's ECART above h's, h comes into T (behind all).");
        hold(x, 2, 101, "x^2+x^3+x^4", "x+x^4", "x+y^3");
        x.weak(0, 6);
        Check.due("ECART 2 is like 2: of t", x.step(0, 1), 2);
        Check.due("ECART 2 is like 2: of h", x.step(0, 2), 2);
        Check.due("it does not come", x.step(0, 3), 0);
        Check.due("ECART 2 is above 1: of t", x.step(1, 1), 2);
        Check.due("ECART 2 is above 1: of h", x.step(1, 2), 1);
        Check.due("it comes", x.step(1, 3), 1);
        Check.due("it is the third of T", x.step(2, 0), 2);
        x.weak(0, 2);
        Check.due("ECART 3 is above 2", x.step(0, 3), 1);
        hold(x, 2, 101, "x^2+x^5", "x+y^3");
        x.weak(0, 2);
        Check.due("ECART 2 is less than 3", x.step(0, 3), 0);
        hold(x, 1, 101, "x", "x+x^2", "x^30");
        x.weak(0, 6);
        steps(x, step(0, 1, 0, 1, 1), step(2, 0, 0, 0, 2));
        Check.due("T", x.step(-1, 1), 3);
    }

    private static void aStep() {
        Near x = Check.says("Item 2", "h is less by t times the number and MONOMIAL by which the LEAD of h goes: a STEP.");
        hold(x, 2, 101, "7x^3y^2", "5xy+x^2y^2");
        Check.due("weak(0, 2)", x.weak(0, 2), 2);
        steps(x, step(0, 2, 0, 1, 5), step(1, 0, 0, 0, 7));
        hold(x, 2, 101, "7x^3y^2", "5xy+y^3");
        Check.due("weak(0, 2)", x.weak(0, 2), 3);
        // 7/5 is 62, -62/5 is 28, -28/5 is 55, -55 is 46.
        kept(x, 3, "62x^2y+28xy^3+55y^5");
        kept(x, 0, "46y^8");
        hold(x, 2, 2, "x+y", "x");
        x.weak(0, 2);
        kept(x, 0, "y");
        hold(x, 1, 32749, "32748x", "32747x");
        x.weak(0, 2);
        kept(x, 3, "16375");
        kept(x, 0, "0");
    }

    // u times f less all q times their POLYNOMIALS less h, by maps of this test's own.

    private static void equations() {
        Check.says("Item 2", "Kept are u and a q for each of T's first ones, so that u times f is h and all q times their POLYNOMIALS:");
        equation(2, 7, "x^3y^3+x^3y+x^5y", "1+x^13y^3");
        equation(2, 3, "xy^4+x^4y^4+x^7y", "2x^6y^7+y^4+x^5y^3", "x^6y^3+x^4y");
        equation(2, 3, "x^5y^4+x^6y^4+x^4y^7", "y^2+2x^5y^5");
        equation(3, 101, "x^2+y^2z+z^4+x^3y", "1+x+y^2+z^3");
        equation(3, 32003, "xyz+x^4", "x+2y^2", "y+3z^2+x^3", "z-x^2");
        equation(3, 32749, "5x", "3x+2xy^16+z^18", "11z^18+4z^18y^14");
    }

    private static void equation(int n, int p, String f, String... g) {
        for (int first = 0; first + g.length <= 5; first++) {
            equationFrom(first, n, p, f, g);
        }
    }

    /** The SET's stand in SLOTS from the first on, in SLOT 5 what is divided, in SLOT 6 a 1. */
    private static void equationFrom(int first, int n, int p, String f, String... g) {
        Near x = new Near();
        x.ring(n, p);
        for (int k = 0; k < g.length; k++) {
            x.read(first + k, g[k]);
        }
        x.read(5, f);
        Check.due(f + " is divided", x.weak(5, 31) > 0, true);
        Check.due("step(-1, 2)", x.step(-1, 2), 1);
        TreeMap<Integer, Long> left = new TreeMap<>();
        x.kept(1, 7);
        add(left, terms(x, 7), terms(x, 5), 1, p);
        for (int k = 0; k < g.length; k++) {
            x.kept(first + k + 2, 7);
            add(left, terms(x, 7), terms(x, first + k), -1, p);
        }
        x.kept(0, 7);
        add(left, terms(x, 7), new int[][] {{1, 0, 0, 0}}, -1, p);
        left.values().removeIf(num -> num == 0);
        Check.due("what is left of the equation of " + f, left.size(), 0);
    }

    /** Numbers and EXPONENTS. */
    private static int[][] terms(Near x, int slot) {
        int[][] told = new int[x.term(slot, -1, 0)][4];
        for (int i = 0; i < told.length; i++) {
            for (int what = 0; what < 4; what++) {
                told[i][what] = x.term(slot, i, what);
            }
        }
        return told;
    }

    /** left is greater by sign times the product of two. */
    private static void add(TreeMap<Integer, Long> left, int[][] f, int[][] g, int sign, int p) {
        for (int[] a : f) {
            for (int[] b : g) {
                int key = ((a[1] + b[1]) * 100 + a[2] + b[2]) * 100 + a[3] + b[3];
                long product = (long) sign * a[0] * b[0];
                left.put(key, Math.floorMod(left.getOrDefault(key, 0L) + product, (long) p));
            }
        }
    }

    private static void atFirst() {
        Near x = Check.says("Item 2", "u is 1, all q 0 at first;");
        hold(x, 2, 101, "x+y^5", "x^2", "y", "0", "x^2");
        Check.due("weak(0, 30)", x.weak(0, 30), 0);
        kept(x, 1, "1");
        kept(x, 3, "0");
        kept(x, 4, "0");
        kept(x, 6, "0");
        x.read(6, "0");
        Check.due("f is 0", x.weak(6, 2), 0);
        kept(x, 1, "1");
        kept(x, 3, "0");
    }

    private static void comesWithItsOwn() {
        Near x = Check.says("Item 2", "one that comes into T comes with its own u and q;");
        hold(x, 1, 101, "5x^2", "0", "0", "2x+4x^3");
        Check.due("weak(0, 8)", x.weak(0, 8), 2);
        // h = -10x^4 after STEP 1; x^2 of the start, that came into T, takes it away.
        steps(x, step(0, 2, 0, 1, 2), step(1, 0, 0, 0, 4));
        kept(x, 0, "0");
        kept(x, 1, "1+2x^2");
        kept(x, 5, "53x");
        // u 1 + x, q 1 of SLOT 1 came with -y^3, that is taken once.
        hold(x, 2, 101, "x", "x+x^2+y^3", "y^3+y^4");
        Check.due("weak(0, 6)", x.weak(0, 6), 4);
        Check.due("which of T", x.step(3, 0), 3);
        kept(x, 0, "0");
        kept(x, 1, "1+x+y+xy");
        kept(x, 3, "1+y");
        kept(x, 4, "100");
    }

    private static void takesItsOwnWithIt() {
        Near x = Check.says("Item 2", "t that came so takes its u, q with it in its STEPS.");
        hold(x, 1, 7, "x", "x+x^2+x^3");
        Check.due("weak(0, 2)", x.weak(0, 2), 3);
        steps(x, step(0, 2, 0, 1, 1), step(1, 0, 1, 0, 2), step(1, 0, 0, 0, 3));
        kept(x, 0, "0");
        kept(x, 1, "1+x+x^2");
        kept(x, 3, "1");
        // u 1 + x and q 1 came: both are taken twice.
        hold(x, 2, 101, "x", "x+x^2+y^3", "y^3+y^4+y^5");
        Check.due("weak(0, 6)", x.weak(0, 6), 5);
        kept(x, 0, "0");
        kept(x, 1, "1+x+y+xy+y^2+xy^2");
        kept(x, 3, "1+y+y^2");
        kept(x, 4, "100");
    }

    // ---- TOO LARGE

    private static void fortySteps() {
        Near x = Check.says("Item 2", "TOO LARGE: a 41st STEP,");
        x.fill(0, 40, 'x', 'y');
        x.read(1, "x");
        Check.due("40, 0 is left", x.weak(0, 2), 40);
        Check.due("step(39, 4)", x.step(39, 4), 13);
        Check.due("step(40, 4)", x.step(40, 4), -1);
        Check.due("kept(3, 6)", x.kept(3, 6), 40);
        x.read(2, "y^20");
        x.make(0, 0, 2, 2);
        Check.due("40, y^20 is left", x.weak(2, 2), 40);
        kept(x, 0, "y^20");
        x.read(2, "x^9");
        x.make(0, 0, 2, 2);
        Check.due("a 41st", x.weak(2, 2), -2);
        Check.due("by another all at once", x.weak(2, 4), 1);
    }

    private static void twentyInT() {
        Near x = Check.says("Item 2", "a 21st in T,");
        // Each h is one MONOMIAL, x^i y^(2j), and comes into T; none of them divides another.
        hold(x, 2, 101, "x^13", "x+y^2");
        for (int slot = 2; slot < 8; slot++) {
            x.read(slot, "x^30y^30");
        }
        Check.due("thirteen behind seven", x.weak(0, 254), 13);
        Check.due("T", x.step(-1, 1), 20);
        Check.due("the last came", x.step(12, 3), 1);
        x.read(0, "x^14");
        Check.due("fourteen behind seven", x.weak(0, 254), -2);
        x.read(7, "0");
        Check.due("fourteen behind six", x.weak(0, 254), 14);
        Check.due("T", x.step(-1, 1), 20);
        x.read(0, "x^15");
        Check.due("fifteen behind six", x.weak(0, 254), -2);
        Check.due("fifteen behind five", x.weak(0, 126 - 64), 15);
    }

    private static void sixtyTermsOfH() {
        Near x = Check.says("Item 2", "h, u or a q with more than 60 TERMS");
        x.ring(3, 101);
        x.fill(1, 58, 'y', 'z');
        x.read(2, "x");
        x.make(0, 1, 2, 0);
        x.read(3, "x+y^29z^30+y^30z^30");
        Check.due("TERMS of f", x.term(0, -1, 0), 59);
        Check.due("h has 60", x.weak(0, 8), 1);
        Check.due("h has 60", x.kept(0, 4), 60);
        x.read(2, "y^20");
        x.make(0, 0, 2, 0);
        Check.due("TERMS of f", x.term(0, -1, 0), 60);
        Check.due("h has 61", x.weak(0, 8), -2);
    }

    private static void sixtyTermsOnTheWay() {
        Near x = Check.says("Item 2", "h, u or a q with more than 60 TERMS");
        x.ring(3, 101);
        x.fill(1, 56, 'y', 'z');
        // Behind xy by ORDER.
        x.read(2, "z^2");
        x.make(2, 1, 2, 1);
        x.read(2, "x+xy+xy^30z^30");
        x.make(0, 1, 2, 0);
        x.read(3, "x+y^29z^30+y^30z^30");
        x.read(4, "xy-y^29z^30-y^30z^30");
        Check.due("60 ahead of the last STEP", x.weak(0, 24), 2);
        Check.due("h has 57", x.kept(0, 5), 57);
        x.read(2, "y^20");
        x.make(0, 0, 2, 0);
        Check.due("61 ahead of the last STEP", x.weak(0, 24), -2);
    }

    private static void sixtyTermsOfU() {
        Near x = Check.says("Item 2", "u or a q with more than 60 TERMS");
        String g = "x+x^2+x^3+x^4+x^5+x^6+x^7+x^8+x^9+x^10+y^11";
        hold(x, 2, 101, "x", g, "y^11+y^12+y^13+y^14+y^15+y^16");
        Check.due("u has 60", x.weak(0, 6), 16);
        Check.due("u has 60", x.kept(1, 7), 60);
        Check.due("q of SLOT 1", x.kept(3, 7), 6);
        kept(x, 0, "0");
        x.read(2, "y^11+y^12+xy^11+y^13+y^14+y^15+y^16");
        Check.due("u has 61", x.weak(0, 6), -2);
    }

    private static void sixtyTermsOfAQ() {
        Near x = Check.says("Item 2", "a q with more than 60 TERMS");
        String row = "z^20+yz^20+y^2z^20+y^3z^20+y^4z^20+y^5z^20+y^6z^20+y^7z^20+y^8z^20+y^9z^20";
        String g = "y^20z^15+xy^20z^15+x^2y^20z^15+x^3y^20z^15+x^4y^20z^15+x^5y^20z^15";
        hold(x, 3, 101, "x+xy+xy^2+xy^3+xy^4+xy^5+xy^6+xy^7+xy^8+xy^9+z^30", "x+z^20", row + "-z^30+y^20z^15", g);
        Check.due("q has 60", x.weak(0, 14), 17);
        Check.due("q of SLOT 1", x.kept(3, 7), 60);
        Check.due("u", x.kept(1, 7), 6);
        Check.due("q of SLOT 2", x.kept(4, 7), 6);
        kept(x, 0, "0");
        x.read(3, g + "+y^21z^15");
        Check.due("q has 61", x.weak(0, 14), -2);
    }

    private static void thirtyOfH() {
        Near x = Check.says("Item 2", "or an EXPONENT above 30.");
        for (String v : new String[] {"x", "y", "z"}) {
            hold(x, 3, 101, v + "^29", v + "+" + v + "^2");
            Check.due("h has " + v + "^30", x.weak(0, 2), 2);
            kept(x, 1, "1+" + v);
            x.read(0, v + "^30");
            Check.due("h has " + v + "^31", x.weak(0, 2), -2);
        }
    }

    private static void thirtyOfU() {
        Near x = Check.says("Item 2", "or an EXPONENT above 30.");
        hold(x, 3, 101, "x", "x+xy^16+z^18", "z^18+y^14z^18");
        Check.due("u has y^30", x.weak(0, 6), 4);
        kept(x, 1, "1+y^14+y^16+y^30");
        kept(x, 3, "1+y^14");
        x.read(2, "z^18+y^15z^18");
        Check.due("u has y^31", x.weak(0, 6), -2);
    }

    private static void thirtyOfAQ() {
        Near x = Check.says("Item 2", "or an EXPONENT above 30.");
        hold(x, 3, 101, "x^25y^16", "x^25+z^27", "y^16z^27+x^24z^20", "x^24z^20+x^24y^14z^20");
        Check.due("q has y^30", x.weak(0, 14), 4);
        kept(x, 3, "y^16+y^30");
        kept(x, 1, "1+y^14");
        x.read(3, "x^24z^20+x^24y^15z^20");
        Check.due("q has y^31", x.weak(0, 14), -2);
    }

    // ---- promise 14

    private static void weakTellsSteps() {
        Near x = Check.says("Promise 14", "WEAK DIVISION of a SLOT by a SET: how many STEPS.");
        hold(x, 2, 101, "2x+y^2", "x^2", "y^3+x^4");
        Check.due("by itself", x.weak(0, 1), 1);
        Check.due("x^2 by it", x.weak(1, 1), 2);
        Check.due("y^3 by x^2", x.weak(2, 2), 0);
        Check.due("by none", x.weak(2, 0), 0);
        Check.due("by all", x.weak(2, 255), 1);
        Check.due("0 by all", x.weak(7, 255), 0);
        Check.due("slots stay", x.shown(0) + " " + x.shown(1) + " " + x.shown(2), "2x+y^2 x^2 y^3+x^4");
    }

    private static void weakTooLarge() {
        Near x = Check.says("Promise 14", "-2 if it is TOO LARGE (there is none then),");
        hold(x, 1, 101, "x^30", "x+x^2");
        Check.due("another", x.weak(1, 0), 0);
        Check.due("one stands", x.look(8), 1);
        Check.due("TOO LARGE", x.weak(0, 2), -2);
        Check.due("look(8)", x.look(8), 0);
        Check.due("look(9)", x.look(9), -1);
        Check.due("look(10)", x.look(10), -1);
        for (int k = -1; k < 11; k++) {
            Check.due("kept(" + k + ", 5)", x.kept(k, 5), -1);
        }
        for (int what = -1; what < 6; what++) {
            Check.due("step(-1, " + what + ")", x.step(-1, what), -1);
            Check.due("step(0, " + what + ")", x.step(0, what), -1);
        }
        Check.due("slots stay", x.look(6), 3);
        Check.due("slots stay", x.shown(0) + " " + x.shown(1), "x^30 x+x^2");
        Check.due("another is one again", x.weak(1, 2), 1);
        kept(x, 3, "1");
    }

    private static void weakOfNone() {
        Near x = Check.says("Promise 14", "NONE if there is none such (the latest one stays).");
        for (int slot : NO_SLOTS) {
            Check.due("none yet: weak(" + slot + ", 0)", x.weak(slot, 0), -1);
        }
        Check.due("none yet", x.look(8), 0);
        hold(x, 2, 101, "x^2+y^3", "x");
        x.weak(0, 2);
        x.show(0);
        String before = x.state();
        for (int slot : NO_SLOTS) {
            Check.due("weak(" + slot + ", 1)", x.weak(slot, 1), -1);
        }
        for (int set : NO_SETS) {
            Check.due("weak(1, " + set + ")", x.weak(1, set), -1);
        }
        Check.due("all", x.state(), before);
        kept(x, 0, "y^3");
        kept(x, 3, "x");
    }

    // ---- promise 15

    private static void keptTells() {
        Near x = Check.says("Promise 15", "Of the latest WEAK DIVISION h (k 0), u (1), q of SLOT k less 2 "
            + "(k 2 .. 9: SLOTS 0 .. 7 by their numbers) comes into a SLOT: how many TERMS.");
        hold(x, 3, 101, "x", "y", "z", "0", "0", "0", "x+5y+9z+7y^2z^2+3z^9");
        Check.due("by x, y, z", x.weak(6, 7), 5);
        Check.due("h", x.keptShown(0, 7), "0");
        Check.due("u", x.keptShown(1, 7), "1");
        Check.due("q of SLOT 0", x.keptShown(2, 7), "1");
        Check.due("q of SLOT 1", x.keptShown(3, 7), "5+7yz^2");
        Check.due("q of SLOT 2", x.keptShown(4, 7), "9+3z^8");
        for (int slot = 0; slot < 8; slot++) {
            x.ring(1, 101);
            x.read(slot, "2x");
            x.read(7 - slot, "x^3");
            Check.due("weak(" + (7 - slot) + ", SLOT " + slot + ")", x.weak(7 - slot, 1 << slot), 1);
            for (int k = 2; k < 10; k++) {
                Check.due("TERMS of q, k " + k, x.kept(k, 4), k == slot + 2 ? 1 : -1);
            }
            Check.due("q", x.shown(4), "51x^2");
            Check.due("TERMS of u", x.kept(1, 4), 1);
            Check.due("TERMS of h", x.kept(0, 4), 0);
        }
        x.ring(2, 101);
        x.read(0, "x+xy+y^3");
        x.read(1, "x");
        x.weak(0, 2);
        Check.due("TERMS of a q of two", x.kept(3, 2), 2);
        Check.due("into a SLOT of its SET", x.kept(0, 1), 1);
        Check.due("into the one that was divided", x.kept(3, 0), 2);
        Check.due("slots", x.shown(0) + " " + x.shown(1) + " " + x.shown(2), "1+y y^3 1+y");
    }

    private static void keptOfNone() {
        Near x = Check.says("Promise 15", "NONE if there is none such (that SLOT was not in its SET, or held 0).");
        for (int k = -1; k < 11; k++) {
            Check.due("none yet: kept(" + k + ", 0)", x.kept(k, 0), -1);
        }
        hold(x, 2, 101, "x^2", "x", "y");
        x.weak(0, 2 + 8 + 128);
        String before = x.state();
        for (int slot : NO_SLOTS) {
            for (int k = 0; k < 4; k++) {
                Check.due("kept(" + k + ", " + slot + ")", x.kept(k, slot), -1);
            }
        }
        for (int k : new int[] {LEAST, -2, -1, 10, 11, 34, 35, MOST}) {
            Check.due("kept(" + k + ", 5)", x.kept(k, 5), -1);
        }
        Check.due("not in its SET: SLOT 0", x.kept(2, 5), -1);
        Check.due("not in its SET: SLOT 2", x.kept(4, 5), -1);
        Check.due("not in its SET: SLOT 6", x.kept(8, 5), -1);
        Check.due("it held 0: SLOT 3", x.kept(5, 5), -1);
        Check.due("it held 0: SLOT 7", x.kept(9, 5), -1);
        Check.due("all", x.state(), before);
        x.read(3, "x");
        Check.due("it held 0 then: SLOT 3", x.kept(5, 5), -1);
        x.read(1, "0");
        Check.due("it did not hold 0 then: SLOT 1", x.kept(3, 5), 1);
        Check.due("that of another SET", x.weak(0, 4), 0);
        Check.due("SLOT 1 is not in it", x.kept(3, 5), -1);
    }

    private static void keptStays() {
        Near x = Check.says("Promise 15", "(SLOTS may have changed since; these stay.)");
        hold(x, 2, 101, "x^2+y", "y+x^3");
        Check.due("weak(0, 2)", x.weak(0, 2), 1);
        Check.due("kept(0, 1)", x.kept(0, 1), 2);
        Check.due("kept(1, 0)", x.kept(1, 0), 1);
        Check.due("slot 1 has h", x.shown(1), "x^2+100x^3");
        x.make(1, 0, 0, 0);
        x.make(2, 1, 1, 1);
        Check.due("its set stays", x.look(9), 2);
        Check.due("its slot stays", x.look(10), 0);
        kept(x, 0, "x^2+100x^3");
        kept(x, 1, "1");
        kept(x, 3, "1");
        kept(x, 0, "x^2+100x^3");
        Check.due("T stays", x.step(-1, 1), 2);
        x.corners(255, 5);
        x.number(1, 1);
        x.rest(1, 255, 5, 1);
        x.part(1, 3, 3);
        x.read(2, "y");
        kept(x, 0, "x^2+100x^3");
    }

    // ---- promise 16

    private static void stepTells() {
        Near x = Check.says("Promise 16", "Of STEP i what 0 which of T, 1 its ECART, 2 ECART of h ahead of it, "
            + "3 whether h came into T (1, 0), 4 DEGREE of h's LEAD ahead of it;");
        hold(x, 2, 101, "x+y^5", "y^5", "x+y^8", "y^7");
        Check.due("weak(0, 14)", x.weak(0, 14), 3);
        steps(x, step(1, 7, 4, 1, 1), step(0, 0, 3, 0, 5), step(0, 0, 0, 0, 8));
        x.weights(2, 3, 1);
        Check.due("weak(0, 14)", x.weak(0, 14), 3);
        steps(x, step(1, 22, 13, 1, 2), step(0, 0, 9, 0, 15), step(0, 0, 0, 0, 24));
        x.weights(1, 4, 1);
        x.weak(0, 2);
        Check.due("x is divided by none", x.step(-1, 0), 0);
    }

    private static void stepTellsTheWhole() {
        Near x = Check.says("Promise 16", "i NONE: what 0 STEPS, 1 how many T had at the end, "
            + "2 whether u times f is all q times their POLYNOMIALS and h (1, 0; by what they were).");
        hold(x, 1, 7, "x", "x+x^2+x^3");
        x.weak(0, 2);
        Check.due("STEPS", x.step(-1, 0), 3);
        Check.due("T", x.step(-1, 1), 2);
        Check.due("the equation", x.step(-1, 2), 1);
        x.read(0, "1+x^5");
        x.read(1, "x^3");
        Check.due("by what they were", x.step(-1, 2), 1);
        x.weak(1, 0);
        Check.due("no STEPS", x.step(-1, 0), 0);
        Check.due("none in T", x.step(-1, 1), 0);
        Check.due("f is h", x.step(-1, 2), 1);
        x.weak(7, 3);
        Check.due("0: T", x.step(-1, 1), 2);
        Check.due("0: the equation", x.step(-1, 2), 1);
    }

    private static void stepOfNone() {
        Near x = Check.says("Promise 16", "NONE if there is none such, or another what.");
        for (int what = -1; what < 5; what++) {
            Check.due("none yet: step(-1, " + what + ")", x.step(-1, what), -1);
            Check.due("none yet: step(0, " + what + ")", x.step(0, what), -1);
        }
        hold(x, 1, 7, "x", "x+x^2+x^3");
        x.weak(0, 2);
        for (int what : new int[] {LEAST, -2, -1, 3, 4, 5, MOST}) {
            Check.due("step(-1, " + what + ")", x.step(-1, what), -1);
        }
        for (int what : new int[] {LEAST, -2, -1, 5, 6, MOST}) {
            Check.due("step(0, " + what + ")", x.step(0, what), -1);
            Check.due("step(2, " + what + ")", x.step(2, what), -1);
        }
        for (int i : new int[] {LEAST, -2, 3, 4, 39, 40, 41, MOST}) {
            for (int what = 0; what < 5; what++) {
                Check.due("step(" + i + ", " + what + ")", x.step(i, what), -1);
            }
        }
        x.weak(0, 0);
        Check.due("without STEPS: step(0, 0)", x.step(0, 0), -1);
        x.weak(0, 2);
        x.ring(1, 7);
        Check.due("it is gone: step(0, 0)", x.step(0, 0), -1);
    }
}
