import java.util.TreeMap;

/** Promises 14 (weak), 15 (kept), 16 (step), and item 2. */
public final class WeakTest {
    private static final int[] NO_SLOTS = {-1, 8, Integer.MIN_VALUE, Integer.MAX_VALUE};
    private static StairsNear x = new StairsNear();

    public static void main(String[] args) {
        greaterByAUnit();
        leastEcart();
        firstOfLikeOnes();
        tookItsOwnUnit();
        byItself();
        noDivisor();
        slotsThatHoldZero();
        byWeights();
        fortySteps();
        twentyDivisors();
        tooManyTerms();
        tooHigh();
        tooLargeIsGone();
        wrongOnes();
        slotsChange();
        equations();
        Check.finish();
    }

    private static void kept(int k, String want) {
        int many = x.kept(k, 7);
        Check.due("kept(" + k + ")", Check.shown(x, 7), want);
        Check.due("how many", many, x.term(7, -1, 0));
    }

    private static void steps(int[]... want) {
        Check.due("step(-1, 0)", x.step(-1, 0), want.length);
        for (int i = 0; i < want.length; i++) {
            for (int what = 0; what < 5; what++) {
                Check.due("step(" + i + ", " + what + ")", x.step(i, what), want[i][what]);
            }
        }
        for (int what = 0; what < 5; what++) {
            Check.due("step(" + want.length + ", " + what + ")", x.step(want.length, what), -1);
        }
    }

    private static int[] step(int... five) {
        return five;
    }

    private static void greaterByAUnit() {
        x.ring(1, 101);
        Check.read(x, 0, "5x^2");
        Check.read(x, 3, "2x+4x^3");
        Check.due("weak(0, 8)", x.weak(0, 8), 2);
        // h = -10x^4 after STEP 1; x^2 of the start, that came into T, takes it away.
        steps(step(0, 2, 0, 1, 2), step(1, 0, 0, 0, 4));
        kept(0, "0");
        kept(1, "1+2x^2");
        kept(5, "53x");
        Check.due("T", x.step(-1, 1), 2);
        Check.due("equation", x.step(-1, 2), 1);
    }

    private static void leastEcart() {
        x.ring(2, 101);
        Check.read(x, 0, "x^2+x^3+x^4");
        Check.read(x, 1, "x+x^4");
        Check.read(x, 2, "x+y^3");
        Check.read(x, 3, "x^2+y^3");
        Check.due("weak(0, 14)", x.weak(0, 14), 2);
        steps(step(2, 1, 2, 0, 2), step(2, 1, 1, 0, 3));
        kept(0, "100y^3+x^4+100xy^3");
        kept(1, "1");
        kept(3, "0");
        kept(4, "0");
        kept(5, "1+x");
        Check.due("T", x.step(-1, 1), 3);
        x.weak(0, 6);
        Check.due("ECART 2 is not above 2", x.step(0, 3), 0);
        Check.due("ECART 2 is above 1", x.step(1, 3), 1);
        Check.due("what came has ECART 1", x.step(2, 0), 2);
    }

    private static void firstOfLikeOnes() {
        x.ring(2, 101);
        Check.read(x, 0, "x^3");
        Check.read(x, 2, "x^2+y^3");
        Check.read(x, 4, "x+y^2");
        Check.read(x, 6, "3x");
        Check.due("weak(0, 20)", x.weak(0, 20), 2);
        steps(step(0, 1, 0, 1, 3), step(1, 1, 0, 1, 4));
        kept(0, "y^5");
        kept(1, "1");
        kept(4, "x");
        kept(6, "100y^3");
        Check.due("weak(0, 80)", x.weak(0, 80), 1);
        steps(step(1, 0, 0, 0, 3));
        kept(8, "34x^2");
        kept(6, "0");
    }

    /** The one that came is used twice: its u and q go with it. */
    private static void tookItsOwnUnit() {
        x.ring(1, 7);
        Check.read(x, 0, "x");
        Check.read(x, 1, "x+x^2+x^3");
        Check.due("weak(0, 2)", x.weak(0, 2), 3);
        steps(step(0, 2, 0, 1, 1), step(1, 0, 1, 0, 2), step(1, 0, 0, 0, 3));
        kept(0, "0");
        kept(1, "1+x+x^2");
        kept(3, "1");
    }

    private static void byItself() {
        x.ring(2, 101);
        Check.read(x, 0, "2x+y^2");
        Check.due("weak(0, 1)", x.weak(0, 1), 1);
        steps(step(0, 1, 1, 0, 1));
        kept(0, "0");
        kept(1, "1");
        kept(2, "1");
        Check.due("T", x.step(-1, 1), 1);
    }

    private static void noDivisor() {
        x.ring(2, 101);
        Check.read(x, 0, "x+y^5");
        Check.read(x, 1, "x^2");
        Check.read(x, 2, "y");
        Check.due("weak(0, 6)", x.weak(0, 6), 0);
        steps();
        kept(0, "x+y^5");
        kept(1, "1");
        kept(3, "0");
        kept(4, "0");
        Check.due("kept(2)", x.kept(2, 7), -1);
        Check.due("T", x.step(-1, 1), 2);
        Check.due("equation", x.step(-1, 2), 1);
        Check.due("weak(0, 0)", x.weak(0, 0), 0);
        Check.due("T", x.step(-1, 1), 0);
        kept(0, "x+y^5");
    }

    private static void slotsThatHoldZero() {
        x.ring(2, 101);
        Check.read(x, 1, "x");
        Check.due("weak(0, 255)", x.weak(0, 255), 0);
        Check.due("its set", x.look(9), 2);
        Check.due("its slot", x.look(10), 0);
        kept(0, "0");
        kept(1, "1");
        kept(3, "0");
        Check.due("kept(2) held 0", x.kept(2, 7), -1);
        Check.due("kept(9) held 0", x.kept(9, 7), -1);
    }

    private static void byWeights() {
        x.ring(2, 101);
        Check.read(x, 0, "x^3");
        Check.read(x, 1, "x^2+y^3");
        Check.due("weights 1", x.weak(0, 2), 1);
        steps(step(0, 1, 0, 1, 3));
        x.weights(3, 2, 1);
        Check.due("weights 3, 2", x.weak(0, 2), 1);
        steps(step(0, 0, 0, 0, 9));
        kept(0, "100xy^3");
        x.weights(2, 1, 1);
        Check.due("weights 2, 1", x.weak(0, 2), 0);
    }

    /** many TERMS, all divided by x, each gone by one STEP. */
    private static void rows(int many) {
        x.ring(2, 101);
        Check.read(x, 0, "1+x+x^2+x^3+x^4");
        Check.read(x, 1, "x+xy+xy^2+xy^3+xy^4+xy^5+xy^6+xy^7");
        Check.due("forty", x.make(2, 0, 1, 0), 40);
        Check.read(x, 1, "x^9");
        if (many > 40) {
            x.make(0, 0, 1, 0);
        }
        Check.read(x, 1, "x");
    }

    private static void fortySteps() {
        rows(40);
        Check.due("forty", x.weak(0, 2), 40);
        Check.due("step(39, 0)", x.step(39, 0), 0);
        Check.due("step(40, 0)", x.step(40, 0), -1);
        Check.due("kept(3, 6)", x.kept(3, 6), 40);
        rows(41);
        Check.due("a 41st", x.weak(0, 2), -2);
    }

    private static void twentyDivisors() {
        x.ring(2, 3);
        Check.read(x, 0, "xy^4+x^4y^4+x^7y");
        Check.read(x, 1, "2x^6y^7+y^4+x^5y^3");
        Check.read(x, 2, "x^6y^3+x^4y");
        int first = x.weak(0, 6);
        Check.due("T has 18", x.step(-1, 1), 18);
        Check.read(x, 3, "x^30y^30");
        Check.read(x, 4, "x^30y^30");
        Check.due("two more", x.weak(0, 30), first);
        Check.due("T has 20", x.step(-1, 1), 20);
        Check.read(x, 5, "x^30y^30");
        Check.due("T had 21", x.weak(0, 62), -2);
        Check.due("without one", x.weak(0, 54), first);
        Check.due("T has 20", x.step(-1, 1), 20);
    }

    private static void tooManyTerms() {
        x.ring(2, 101);
        Check.read(x, 0, "x+x^2+x^3+x^4+x^5+x^6");
        Check.read(x, 1, "1+y+y^2+y^3+y^4+y^5+y^6+y^7+y^8+y^9");
        Check.due("sixty", x.make(2, 0, 1, 0), 60);
        Check.read(x, 2, "x+x^20+x^21");
        Check.due("h had 61", x.weak(0, 4), -2);
    }

    private static void tooHigh() {
        x.ring(1, 101);
        Check.read(x, 0, "x^30");
        Check.read(x, 1, "x+x^2");
        Check.due("h had x^31", x.weak(0, 2), -2);
        Check.read(x, 0, "x^29");
        Check.due("h has x^30", x.weak(0, 2), 2);
        kept(1, "1+x");
    }

    private static void tooLargeIsGone() {
        x.ring(1, 101);
        Check.read(x, 0, "x^30");
        Check.read(x, 1, "x+x^2");
        x.weak(1, 0);
        Check.due("one stands", x.look(8), 1);
        Check.due("TOO LARGE", x.weak(0, 2), -2);
        Check.due("look(8)", x.look(8), 0);
        Check.due("look(9)", x.look(9), -1);
        Check.due("look(10)", x.look(10), -1);
        for (int k = 0; k < 10; k++) {
            Check.due("kept(" + k + ", 5)", x.kept(k, 5), -1);
        }
        for (int what = 0; what < 5; what++) {
            Check.due("step(-1, " + what + ")", x.step(-1, what), -1);
            Check.due("step(0, " + what + ")", x.step(0, what), -1);
        }
        Check.due("slots stay", x.look(6), 3);
    }

    private static void wrongOnes() {
        x = new StairsNear();
        for (int k = -1; k < 11; k++) {
            Check.due("none yet: kept(" + k + ", 0)", x.kept(k, 0), -1);
        }
        Check.due("none yet: step(-1, 2)", x.step(-1, 2), -1);
        Check.read(x, 0, "x^2");
        Check.read(x, 1, "x");
        x.weak(0, 2);
        for (int slot : NO_SLOTS) {
            Check.due("weak(" + slot + ", 1)", x.weak(slot, 1), -1);
            Check.due("kept(0, " + slot + ")", x.kept(0, slot), -1);
        }
        for (int set : new int[] {-1, 256, 258, Integer.MIN_VALUE, Integer.MAX_VALUE}) {
            Check.due("weak(1, " + set + ")", x.weak(1, set), -1);
        }
        for (int k : new int[] {-1, 2, 4, 9, 10, 11, 35, Integer.MIN_VALUE, Integer.MAX_VALUE}) {
            Check.due("kept(" + k + ", 5)", x.kept(k, 5), -1);
        }
        for (int what : new int[] {-1, 3, 4, 5, Integer.MIN_VALUE, Integer.MAX_VALUE}) {
            Check.due("step(-1, " + what + ")", x.step(-1, what), -1);
        }
        for (int what : new int[] {-1, 5, Integer.MIN_VALUE, Integer.MAX_VALUE}) {
            Check.due("step(0, " + what + ")", x.step(0, what), -1);
        }
        for (int i : new int[] {-2, 1, 40, Integer.MIN_VALUE, Integer.MAX_VALUE}) {
            Check.due("step(" + i + ", 0)", x.step(i, 0), -1);
        }
        Check.due("the latest stays: step(-1, 0)", x.step(-1, 0), 1);
        Check.due("the latest stays: look(9)", x.look(9), 2);
        Check.due("the latest stays: look(10)", x.look(10), 0);
        Check.due("slots stay", x.look(6), 3);
        kept(3, "x");
    }

    private static void slotsChange() {
        x.ring(2, 101);
        Check.read(x, 0, "x^2+y");
        Check.read(x, 1, "y+x^3");
        Check.due("weak(0, 2)", x.weak(0, 2), 1);
        Check.due("kept(0, 1)", x.kept(0, 1), 2);
        Check.due("kept(1, 0)", x.kept(1, 0), 1);
        Check.due("slot 1 has h", Check.shown(x, 1), "x^2+100x^3");
        x.make(1, 0, 0, 0);
        x.make(2, 1, 1, 1);
        Check.due("its set stays", x.look(9), 2);
        Check.due("its slot stays", x.look(10), 0);
        kept(0, "x^2+100x^3");
        kept(1, "1");
        kept(3, "1");
        kept(0, "x^2+100x^3");
        Check.due("T stays", x.step(-1, 1), 2);
        Check.due("equation", x.step(-1, 2), 1);
    }

    // u times f less all q times their POLYNOMIALS less h, by maps of this test's own.

    private static void equations() {
        x = new StairsNear();
        equation(2, 7, "x^3y^3+x^3y+x^5y", "1+x^13y^3");
        equation(2, 3, "xy^4+x^4y^4+x^7y", "2x^6y^7+y^4+x^5y^3", "x^6y^3+x^4y");
        equation(2, 3, "x^5y^4+x^6y^4+x^4y^7", "y^2+2x^5y^5");
        equation(3, 101, "x^2+y^2z+z^4+x^3y", "1+x+y^2+z^3");
        equation(3, 32003, "xyz+x^4", "x+2y^2", "y+3z^2+x^3", "z-x^2");
    }

    private static void equation(int n, int p, String f, String... g) {
        for (int first = 0; first + g.length <= 5; first++) {
            equationFrom(first, n, p, f, g);
        }
    }

    /** The SET's stand in SLOTS from the first on, in SLOT 5 what is divided, in SLOT 6 a 1. */
    private static void equationFrom(int first, int n, int p, String f, String... g) {
        x.ring(n, p);
        for (int k = 0; k < g.length; k++) {
            Check.read(x, first + k, g[k]);
        }
        Check.read(x, 5, f);
        Check.due(f + " is divided", x.weak(5, 31) > 0, true);
        Check.read(x, 6, "1");
        TreeMap<Integer, Long> left = new TreeMap<>();
        x.kept(1, 7);
        add(left, 7, 5, 1, p);
        for (int k = 0; k < g.length; k++) {
            x.kept(first + k + 2, 7);
            add(left, 7, first + k, -1, p);
        }
        x.kept(0, 7);
        add(left, 7, 6, -1, p);
        left.values().removeIf(num -> num == 0);
        Check.due("what is left of the equation of " + f, left.size(), 0);
        Check.due("step(-1, 2)", x.step(-1, 2), 1);
    }

    /** left is greater by sign times the product of two SLOTS. */
    private static void add(TreeMap<Integer, Long> left, int a, int b, int sign, int p) {
        for (int i = 0; i < x.term(a, -1, 0); i++) {
            for (int j = 0; j < x.term(b, -1, 0); j++) {
                int key = 0;
                for (int v = 1; v < 4; v++) {
                    key = key * 100 + x.term(a, i, v) + x.term(b, j, v);
                }
                long product = (long) sign * x.term(a, i, 0) * x.term(b, j, 0);
                left.put(key, Math.floorMod(left.getOrDefault(key, 0L) + product, (long) p));
            }
        }
    }
}
