/** Promises 1 (new), 2 (ring), 3 (weights), 24 (all), 25 (look), and the RING of item 1. */
public final class RingTest {
    private static final int LEAST = Integer.MIN_VALUE;
    private static final int MOST = Integer.MAX_VALUE;

    public static void main(String[] args) {
        none();
        calls();
        newObject();
        variables();
        primes();
        weightsAtFirst();
        ringIsNew();
        ringEmptiesSlots();
        ringEndsDivision();
        ringLeavesTheRest();
        ringOfNoVariables();
        ringOfNoPrime();
        everyNumberForARing();
        weightsOfAllThree();
        weightsBeyond();
        weightsEndDivision();
        weightsThatCantBe();
        allBelow();
        allOfDegree();
        allOfNoN();
        allOfAnotherWhat();
        lookAtRing();
        lookAtBound();
        lookAtSlots();
        lookAtTape();
        lookWhetherThereIsADivision();
        lookAtItsSet();
        lookAtItsSlot();
        lookAtAnotherWhat();
        Check.finish();
    }

    private static void looks(String when, Near x, int... want) {
        for (int what = 0; what < want.length; what++) {
            Check.due(when + ": look(" + what + ")", x.look(what), want[what]);
        }
    }

    private static void none() {
        Check.says("Item 3", "The constants: `NONE = -1`: None.");
        Check.due("NONE", StairsNear.NONE, -1);
    }

    private static void calls() {
        Near x = Check.says("What it is", "An object is used for at most 512 calls after it has been made");
        x.read(0, "x^2+y^3");
        for (int i = x.callsMade(); i < 511; i++) {
            Check.due("number(0, 0)", x.number(0, 0), 2);
        }
        Check.due("the 512th", x.number(0, 1), 2);
    }

    private static void newObject() {
        Near x = Check.says("Promise 1", "n 2, p 32003, WEIGHTS 1, all SLOTS 0.");
        looks("new", x, 2, 32003, 1, 1, 1, 12, 0, 0, 0, -1, -1);
        for (int slot = 0; slot < 8; slot++) {
            Check.due("slot " + slot, x.term(slot, -1, 0), 0);
        }
        Check.due("nothing is shown", x.out(0), -1);
        Check.due("slot 7 shown", x.shown(7), "0");
        Check.due("y is one of the two", x.read(0, "y+32002"), 2);
        Check.due("z is not", x.read(0, "z"), -1);
        Check.due("32003 is 0", x.read(0, "32003"), 0);
    }

    private static void variables() {
        Near x = Check.says("Item 1", "A RING: n (1 .. 3) VARIABLES x, y, z (2 at first),");
        Check.due("x and y at first", x.read(0, "x+y"), 2);
        Check.due("no z at first", x.read(0, "z"), -1);
        Check.due("none", x.ring(0, 7), false);
        Check.due("one", x.ring(1, 7), true);
        Check.due("x of one", x.read(0, "x"), 1);
        Check.due("y of one", x.read(0, "y"), -1);
        Check.due("three", x.ring(3, 7), true);
        Check.due("x, y, z of three", x.read(0, "x+y+z"), 3);
        Check.due("four", x.ring(4, 7), false);
    }

    private static void primes() {
        Near x = Check.says("Item 1", "numbers modulo a prime p (2 .. 32749; 32003 at first),");
        Check.due("at first", x.look(1), 32003);
        x.read(0, "32002+32003x+32004y");
        Check.due("modulo 32003", x.shown(0), "32002+y");
        Check.due("2", x.ring(2, 2), true);
        x.read(0, "1+2x+3y");
        Check.due("modulo 2", x.shown(0), "1+y");
        Check.due("32749", x.ring(2, 32749), true);
        x.read(0, "32748+32749x+32750y");
        Check.due("modulo 32749", x.shown(0), "32748+y");
        x.read(1, "32748");
        Check.due("their product", x.make(2, 0, 1, 2), 2);
        Check.due("their product", x.shown(2), "1+32748y");
    }

    private static void weightsAtFirst() {
        Near x = Check.says("Item 1", "WEIGHTS of VARIABLES (1 .. 4; 1 at first).");
        looks("at first", x, 2, 32003, 1, 1, 1);
        for (int w = 1; w <= 4; w++) {
            Check.due(w + " for x", x.weights(w, 1, 1), true);
            Check.due(w + " for y", x.weights(1, w, 1), true);
            Check.due(w + " for z", x.weights(1, 1, w), true);
            looks(w + " for z", x, 2, 32003, 1, 1, w);
        }
        for (int w : new int[] {0, 5}) {
            Check.due(w + " for x", x.weights(w, 1, 1), false);
            Check.due(w + " for y", x.weights(1, w, 1), false);
            Check.due(w + " for z", x.weights(1, 1, w), false);
        }
    }

    private static void ringIsNew() {
        Near x = Check.says("Promise 2", "A RING with n VARIABLES, modulo p, WEIGHTS 1:");
        int[] bounds = {24, 12, 8};
        for (int n = 1; n <= 3; n++) {
            x.weights(2, 3, 4);
            Check.due("ring(" + n + ", 5)", x.ring(n, 5), true);
            looks("ring(" + n + ", 5)", x, n, 5, 1, 1, 1, bounds[n - 1]);
            x.read(0, "x^2");
            Check.due("DEGREE of x^2", x.term(0, 0, 4), 2);
        }
        x.weights(4, 4, 4);
        Check.due("like the ring that stands", x.ring(3, 5), true);
        looks("like the ring that stands", x, 3, 5, 1, 1, 1, 8, 0);
    }

    private static void ringEmptiesSlots() {
        Near x = Check.says("Promise 2", "all SLOTS are 0 then,");
        for (int slot = 0; slot < 8; slot++) {
            x.read(slot, "x+y^2");
        }
        Check.due("LENGTH of slots", x.length(255, 1), -1);
        Check.due("all hold one", x.look(6), 255);
        Check.due("the same ring again", x.ring(2, 32003), true);
        Check.due("none holds one", x.look(6), 0);
        for (int slot = 0; slot < 8; slot++) {
            Check.due("slot " + slot, x.term(slot, -1, 0), 0);
        }
        Check.due("slot 7", x.shown(7), "0");
        Check.due("STAIR of slots", x.stairs(255, 3, -1), 6);
    }

    private static void ringEndsDivision() {
        Near x = Check.says("Promise 2", "the latest WEAK DIVISION is gone: true;");
        x.read(0, "x^2");
        x.read(1, "x");
        x.weak(0, 2);
        Check.due("one stands", x.look(8), 1);
        Check.due("the same ring again", x.ring(2, 32003), true);
        looks("it is gone", x, 2, 32003, 1, 1, 1, 12, 0, 0, 0, -1, -1);
        for (int k = 0; k < 10; k++) {
            Check.due("kept(" + k + ", 0)", x.kept(k, 0), -1);
        }
        for (int what = 0; what < 5; what++) {
            Check.due("step(0, " + what + ")", x.step(0, what), -1);
            Check.due("step(-1, " + what + ")", x.step(-1, what), -1);
        }
    }

    /** THE TAPE, the FAULT and what was SHOWN are none of a RING's. */
    private static void ringLeavesTheRest() {
        Near x = Check.says("Promise 2", "true;");
        x.read(0, "x+y");
        x.show(0);
        x.read(7, "x+");
        x.tape("x^2");
        Check.due("ring(1, 7)", x.ring(1, 7), true);
        Check.due("shown stays", x.shownLatest(), "x+y");
        Check.due("fault stays", x.fault(0), 1);
        Check.due("its place stays", x.fault(1), 2);
        Check.due("tape stays", x.look(7), 3);
        Check.due("tape stays", x.poly(2), 1);
        Check.due("tape stays", x.shown(2), "x^2");
    }

    /** An object with something of everything: another RING, SLOTS, a FAULT, THE TAPE, SHOWN, a WEAK DIVISION. */
    private static Near full(Near x) {
        x.ring(2, 101);
        x.weights(2, 3, 4);
        x.read(0, "x^2+y");
        x.read(1, "x");
        x.weak(0, 3);
        x.show(0);
        x.read(7, "x+");
        x.tape("y^2");
        return x;
    }

    private static void tapeStays(Near x) {
        Check.due("tape stays", x.poly(5), 1);
        Check.due("tape stays", x.shown(5), "y^2");
    }

    private static void ringOfNoVariables() {
        Near x = full(Check.says("Promise 2", "false, and nothing changes, if n is none,"));
        String before = x.state();
        for (int n : new int[] {LEAST, -1, 0, 4, 5, 256, MOST}) {
            Check.due("ring(" + n + ", 7)", x.ring(n, 7), false);
        }
        Check.due("all", x.state(), before);
        Check.due("h stays", x.kept(0, 6), 0);
        Check.due("u stays", x.keptShown(1, 6), "1");
        tapeStays(x);
    }

    private static void ringOfNoPrime() {
        Near x = full(Check.says("Promise 2", "p is no prime (2 .. 32749)."));
        String before = x.state();
        int[] others = {LEAST, -32003, -7, -2, -1, 0, 1, 4, 6, 9, 25, 32041, 32747, 32748, 32750, 32751, 32771, 65537, MOST};
        for (int p : others) {
            for (int n = 1; n <= 3; n++) {
                Check.due("ring(" + n + ", " + p + ")", x.ring(n, p), false);
            }
        }
        Check.due("all", x.state(), before);
        Check.due("u stays", x.keptShown(1, 6), "1");
        tapeStays(x);
    }

    private static void everyNumberForARing() {
        boolean[] composite = new boolean[33_000];
        Near x = Check.says("Promise 2", "p is no prime (2 .. 32749).");
        for (int p = 0; p < composite.length; p++) {
            for (int m = 2 * p; p > 1 && !composite[p] && m < composite.length; m += p) {
                composite[m] = true;
            }
            if (x.callsMade() >= 500) {
                x = new Near();
            }
            // All small ones, all that a square divides nearly, and all about the greatest.
            if (p < 400 || p > 32_400 || p % 97 == 0) {
                Check.due("ring(1, " + p + ")", x.ring(1, p), p > 1 && p <= 32749 && !composite[p]);
            }
        }
    }

    private static void weightsOfAllThree() {
        Near x = Check.says("Promise 3", "WEIGHTS of x, y, z (all three are told;");
        Check.due("weights(2, 3, 4)", x.weights(2, 3, 4), true);
        looks("two VARIABLES", x, 2, 32003, 2, 3, 4);
        x.read(0, "1+x+y+xy+x^2+y^2+x^3");
        Check.due("by 2, 3", x.shown(0), "1+x+y+x^2+xy+x^3+y^2");
        Check.due("weights(1, 3, 1)", x.weights(1, 3, 1), true);
        Check.due("by 1, 3", x.shown(0), "1+x+x^2+x^3+y+xy+y^2");
        Check.due("DEGREE of xy", x.term(0, 5, 4), 4);
        Check.due("weights(4, 1, 4)", x.weights(4, 1, 4), true);
        Check.due("by 4, 1", x.shown(0), "1+y+y^2+x+xy+x^2+x^3");
        x.ring(3, 7);
        x.weights(4, 2, 1);
        x.read(0, "x+y+z+y^2+z^2+z^4");
        Check.due("by 4, 2, 1", x.shown(0), "z+y+z^2+x+y^2+z^4");
    }

    private static void weightsBeyond() {
        Near x = Check.says("Promise 3", "those beyond n don't matter):");
        x.ring(1, 5);
        x.read(0, "x^3");
        Check.due("weights(1, 4, 3)", x.weights(1, 4, 3), true);
        looks("they are told", x, 1, 5, 1, 4, 3, 24, 1);
        Check.due("N of x^3", x.length(1, 0), 4);
        Check.due("MONOMIALS", x.all(24, 0), 24);
        x.ring(2, 5);
        x.read(0, "x^2");
        x.read(1, "y^2");
        x.weights(1, 1, 4);
        Check.due("N of x^2, y^2", x.length(3, 0), 4);
        Check.due("MONOMIALS", x.all(12, 0), 78);
        for (int w : new int[] {0, 5, -1}) {
            Check.due("one beyond n that can't be", x.weights(1, 1, w), false);
        }
        x.ring(1, 5);
        Check.due("two beyond n that can't be", x.weights(1, 0, 9), false);
    }

    private static void weightsEndDivision() {
        Near x = Check.says("Promise 3", "true (the latest WEAK DIVISION is gone, SLOTS stay);");
        x.read(0, "x^2+y");
        x.read(5, "x");
        x.weak(0, 32);
        x.show(5);
        x.read(7, "w");
        x.tape("xy");
        Check.due("the same WEIGHTS again", x.weights(1, 1, 1), true);
        looks("it is gone", x, 2, 32003, 1, 1, 1, 12, 33, 2, 0, -1, -1);
        Check.due("kept(0, 1)", x.kept(0, 1), -1);
        Check.due("step(-1, 0)", x.step(-1, 0), -1);
        Check.due("shown stays", x.shownLatest(), "x");
        Check.due("fault stays", x.fault(0), 1);
        Check.due("slot 0 stays", x.shown(0), "y+x^2");
        Check.due("slot 5 stays", x.shown(5), "x");
        Check.due("other WEIGHTS", x.weights(1, 3, 1), true);
        Check.due("slot 0 stays, by another ORDER", x.shown(0), "x^2+y");
    }

    private static void weightsThatCantBe() {
        Near x = full(Check.says("Promise 3", "false if one can't be."));
        String before = x.state();
        for (int w : new int[] {LEAST, -4, -1, 0, 5, 6, 257, MOST}) {
            Check.due("x", x.weights(w, 1, 1), false);
            Check.due("y", x.weights(1, w, 1), false);
            Check.due("z", x.weights(1, 1, w), false);
            Check.due("all", x.weights(w, w, w), false);
        }
        Check.due("all", x.state(), before);
        Check.due("u stays", x.keptShown(1, 6), "1");
        tapeStays(x);
    }

    private static void allBelow() {
        Near x = Check.says("Promise 24", "How many MONOMIALS there are of DEGREE below N (what 0),");
        int[] below = {0, 1, 3, 6, 10, 15, 21, 28, 36, 45, 55, 66, 78};
        for (int n = 1; n <= 12; n++) {
            Check.due("all(" + n + ", 0)", x.all(n, 0), below[n]);
        }
        x.ring(1, 2);
        for (int n = 1; n <= 24; n++) {
            Check.due("one: all(" + n + ", 0)", x.all(n, 0), n);
        }
        x.ring(3, 2);
        Check.due("three: all(1, 0)", x.all(1, 0), 1);
        Check.due("three: all(8, 0)", x.all(8, 0), 120);
        x.weights(4, 4, 4);
        Check.due("4, 4, 4: all(4, 0)", x.all(4, 0), 1);
        Check.due("4, 4, 4: all(5, 0)", x.all(5, 0), 4);
        Check.due("4, 4, 4: all(8, 0)", x.all(8, 0), 4);
    }

    private static void allOfDegree() {
        Near x = Check.says("Promise 24", "of DEGREE N (1).");
        for (int n = 1; n <= 12; n++) {
            Check.due("all(" + n + ", 1)", x.all(n, 1), n + 1);
        }
        x.weights(2, 3, 1);
        int[] of = {1, 0, 1, 1, 1, 1, 2, 1, 2, 2, 2, 2, 3};
        for (int n = 1; n <= 12; n++) {
            Check.due("2, 3: all(" + n + ", 1)", x.all(n, 1), of[n]);
        }
        x.ring(1, 2);
        Check.due("one: all(24, 1)", x.all(24, 1), 1);
        x.weights(4, 1, 1);
        Check.due("one, 4: all(24, 1)", x.all(24, 1), 1);
        Check.due("one, 4: all(23, 1)", x.all(23, 1), 0);
        x.ring(3, 2);
        Check.due("three: all(8, 1)", x.all(8, 1), 45);
        x.weights(4, 4, 4);
        Check.due("4, 4, 4: all(8, 1)", x.all(8, 1), 6);
        Check.due("4, 4, 4: all(7, 1)", x.all(7, 1), 0);
    }

    private static void allOfNoN() {
        Near x = Check.says("Promise 24", "NONE if N is none (1 .. BOUND),");
        int[] bounds = {24, 12, 8};
        for (int n = 1; n <= 3; n++) {
            x.ring(n, 7);
            Check.due("all(BOUND, 0)", x.all(bounds[n - 1], 0) > 0, true);
            Check.due("all(1, 1)", x.all(1, 1), n);
            for (int none : new int[] {LEAST, -1, 0, bounds[n - 1] + 1, bounds[n - 1] + 2, 25, MOST}) {
                Check.due("all(" + none + ", 0)", x.all(none, 0), -1);
                Check.due("all(" + none + ", 1)", x.all(none, 1), -1);
            }
        }
    }

    private static void allOfAnotherWhat() {
        Near x = Check.says("Promise 24", "or another what.");
        for (int what : new int[] {LEAST, -2, -1, 2, 3, MOST}) {
            Check.due("all(3, " + what + ")", x.all(3, what), -1);
        }
    }

    private static void lookAtRing() {
        Near x = Check.says("Promise 25", "0 n, 1 p, 2, 3, 4 WEIGHTS,");
        looks("new", x, 2, 32003, 1, 1, 1);
        x.ring(3, 2);
        x.weights(2, 3, 4);
        looks("three", x, 3, 2, 2, 3, 4);
        x.ring(1, 32749);
        x.weights(4, 1, 2);
        looks("one", x, 1, 32749, 4, 1, 2);
    }

    private static void lookAtBound() {
        Near x = Check.says("Promise 25", "5 BOUND,");
        Check.due("new", x.look(5), 12);
        x.ring(1, 7);
        Check.due("one", x.look(5), 24);
        x.ring(3, 7);
        x.weights(4, 4, 4);
        Check.due("three", x.look(5), 8);
    }

    private static void lookAtSlots() {
        Near x = Check.says("Promise 25", "6 SLOTS that are not 0 as bits,");
        int bits = 0;
        for (int slot : new int[] {3, 0, 7, 1, 2, 6, 4, 5}) {
            x.read(slot, "1");
            bits |= 1 << slot;
            Check.due("with slot " + slot, x.look(6), bits);
        }
        x.read(7, "x-x");
        Check.due("without slot 7", x.look(6), 127);
        x.make(1, 3, 3, 3);
        Check.due("without slot 3", x.look(6), 119);
        x.part(0, 0, 0);
        Check.due("without slot 0", x.look(6), 118);
    }

    private static void lookAtTape() {
        Near x = Check.says("Promise 25", "7 bytes of THE TAPE,");
        Check.due("new", x.look(7), 0);
        for (int many = 20; many <= 200; many += 20) {
            x.feed(0, 0, 0, 0, 0);
            Check.due("fed", x.look(7), many);
        }
        x.feed(0, 0, 0, 0, 0);
        Check.due("full", x.look(7), 200);
        x.end(7);
        Check.due("cut off", x.look(7), 7);
        x.poly(0);
        Check.due("read", x.look(7), 0);
    }

    private static void lookWhetherThereIsADivision() {
        Near x = Check.says("Promise 25", "8 1 if there is a WEAK DIVISION,");
        Check.due("new", x.look(8), 0);
        x.read(0, "x^30");
        x.read(1, "x+x^2");
        Check.due("no such slot", x.weak(8, 1), -1);
        Check.due("none yet", x.look(8), 0);
        x.weak(2, 0);
        Check.due("0 by none", x.look(8), 1);
        Check.due("TOO LARGE", x.weak(0, 2), -2);
        Check.due("TOO LARGE: none", x.look(8), 0);
        x.weak(1, 1);
        Check.due("without a STEP", x.look(8), 1);
        Check.due("no such slot", x.weak(8, 1), -1);
        Check.due("it stays", x.look(8), 1);
    }

    private static void lookAtItsSet() {
        Near x = Check.says("Promise 25", "9 its SET as bits (those that were not 0; NONE without),");
        Check.due("new", x.look(9), -1);
        x.read(0, "x");
        x.read(3, "y^2");
        x.read(7, "1+x");
        x.weak(7, 255);
        Check.due("by all", x.look(9), 137);
        x.read(1, "x");
        x.make(1, 3, 3, 3);
        Check.due("by what they were", x.look(9), 137);
        x.weak(7, 255);
        Check.due("by what they are", x.look(9), 131);
        x.weak(7, 8 + 1);
        Check.due("slot 3 is 0", x.look(9), 1);
        x.weak(2, 8);
        Check.due("all are 0", x.look(9), 0);
        x.weak(0, 256);
        Check.due("no such SET", x.look(9), 0);
        x.read(4, "x^30");
        x.read(5, "x+x^2");
        Check.due("TOO LARGE", x.weak(4, 32), -2);
        Check.due("TOO LARGE: none", x.look(9), -1);
    }

    private static void lookAtItsSlot() {
        Near x = Check.says("Promise 25", "10 the number of the SLOT that was divided (NONE without).");
        Check.due("new", x.look(10), -1);
        for (int slot = 7; slot >= 0; slot--) {
            x.weak(slot, 255);
            Check.due("slot " + slot, x.look(10), slot);
            x.read(slot, "x^" + slot);
            Check.due("slot " + slot + " has changed", x.look(10), slot);
        }
        x.weak(8, 1);
        Check.due("no such slot", x.look(10), 0);
        x.read(4, "x^30");
        x.read(5, "x+x^2");
        Check.due("TOO LARGE", x.weak(4, 32), -2);
        Check.due("TOO LARGE: none", x.look(10), -1);
    }

    private static void lookAtAnotherWhat() {
        Near x = Check.says("Promise 25", "NONE for another what.");
        x.read(0, "x");
        x.weak(0, 1);
        for (int what : new int[] {LEAST, -2, -1, 11, 12, 100, MOST}) {
            Check.due("look(" + what + ")", x.look(what), -1);
        }
    }
}
