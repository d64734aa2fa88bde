/** Promises 1 (new), 2 (ring), 3 (weights), 24 (all), 25 (look). */
public final class RingTest {
    public static void main(String[] args) {
        newObject();
        rings();
        ringClears();
        weights();
        weightsClear();
        all();
        look();
        Check.finish();
    }

    private static void looks(String when, StairsNear x, int... want) {
        for (int what = 0; what < want.length; what++) {
            Check.due(when + ": look(" + what + ")", x.look(what), want[what]);
        }
    }

    private static void newObject() {
        looks("new", new StairsNear(), 2, 32003, 1, 1, 1, 12, 0, 0, 0, -1, -1);
        StairsNear x = new StairsNear();
        for (int slot = 0; slot < 8; slot++) {
            Check.due("new: slot " + slot, Check.shown(x, slot), "0");
        }
        Check.due("NONE", StairsNear.NONE, -1);
        Check.due("new: nothing shown", new StairsNear().out(0), -1);
        Check.due("new: no fault", new StairsNear().fault(0), 0);
        Check.due("new: no place", new StairsNear().fault(1), -1);
    }

    private static void rings() {
        StairsNear x = new StairsNear();
        int[] primes = {2, 3, 5, 7, 31, 181, 32003, 32719, 32749};
        for (int p : primes) {
            Check.due("ring(1, " + p + ")", x.ring(1, p), true);
            Check.due("look(1)", x.look(1), p);
        }
        int[] others = {Integer.MIN_VALUE, -7, -1, 0, 1, 4, 9, 25, 32041, 32747, 32748, 32750, 32771, 65537, Integer.MAX_VALUE};
        for (int p : others) {
            Check.due("ring(1, " + p + ")", x.ring(1, p), false);
        }
        for (int n : new int[] {Integer.MIN_VALUE, -1, 0, 4, Integer.MAX_VALUE}) {
            Check.due("ring(" + n + ", 7)", x.ring(n, 7), false);
        }
        looks("after all that can't be", x, 1, 32749, 1, 1, 1, 24);
        Check.due("ring(3, 2)", x.ring(3, 2), true);
        looks("three", x, 3, 2, 1, 1, 1, 8);
    }

    private static void ringClears() {
        StairsNear x = new StairsNear();
        x.weights(2, 3, 4);
        Check.read(x, 0, "x+y");
        x.show(0);
        Check.read(x, 7, "x+");
        x.weak(0, 1);
        Check.tape(x, "x^2");
        Check.due("ring(2, 9)", x.ring(2, 9), false);
        looks("a ring that can't be", x, 2, 32003, 2, 3, 4, 12, 1, 3, 1, 1, 0);
        Check.due("ring(2, 7)", x.ring(2, 7), true);
        looks("a new ring", x, 2, 7, 1, 1, 1, 12, 0, 3, 0, -1, -1);
        Check.due("kept(0, 1) is gone", x.kept(0, 1), -1);
        Check.due("step(-1, 0) is gone", x.step(-1, 0), -1);
        Check.due("shown stays", x.out(1), '+');
        Check.due("fault stays", x.fault(1), 2);
        Check.due("tape stays", x.poly(2), 1);
        Check.due("like ring again", x.ring(2, 7), true);
        looks("the same ring again", x, 2, 7, 1, 1, 1, 12, 0);
    }

    private static void weights() {
        StairsNear x = new StairsNear();
        Check.read(x, 0, "1+x+y+xy+x^2+y^2+x^3");
        Check.due("weights 1", Check.shown(x, 0), "1+x+y+x^2+xy+y^2+x^3");
        Check.due("weights(1, 3, 1)", x.weights(1, 3, 1), true);
        Check.due("weights 1, 3", Check.shown(x, 0), "1+x+x^2+x^3+y+xy+y^2");
        Check.due("term degree", x.term(0, 5, 4), 4);
        Check.due("weights(4, 1, 4)", x.weights(4, 1, 4), true);
        Check.due("weights 4, 1", Check.shown(x, 0), "1+y+y^2+x+xy+x^2+x^3");
        int[][] wrong = {{0, 1, 1}, {1, 0, 1}, {1, 1, 0}, {5, 1, 1}, {1, 5, 1}, {1, 1, 5}, {-1, 1, 1}, {1, 1, -4},
            {Integer.MIN_VALUE, 1, 1}, {1, Integer.MAX_VALUE, 1}};
        for (int[] w : wrong) {
            Check.due("weights(" + w[0] + ", " + w[1] + ", " + w[2] + ")", x.weights(w[0], w[1], w[2]), false);
        }
        looks("weights that can't be", x, 2, 32003, 4, 1, 4, 12, 1);
        x.ring(1, 5);
        Check.due("beyond n", x.weights(1, 4, 3), true);
        looks("beyond n", x, 1, 5, 1, 4, 3, 24);
        Check.read(x, 0, "x^3");
        Check.due("beyond n: N", x.length(1, 0), 4);
    }

    private static void weightsClear() {
        StairsNear x = new StairsNear();
        Check.read(x, 0, "x+y");
        x.weak(0, 1);
        Check.due("weights(1, 1, 5)", x.weights(1, 1, 5), false);
        looks("weights that can't be", x, 2, 32003, 1, 1, 1, 12, 1, 0, 1, 1, 0);
        Check.due("weights(1, 1, 1)", x.weights(1, 1, 1), true);
        looks("weights told", x, 2, 32003, 1, 1, 1, 12, 1, 0, 0, -1, -1);
        Check.due("kept(0, 1) is gone", x.kept(0, 1), -1);
    }

    private static void all() {
        StairsNear x = new StairsNear();
        int[] below = {0, 1, 3, 6, 10, 15, 21, 28, 36, 45, 55, 66, 78};
        for (int n = 1; n <= 12; n++) {
            Check.due("all(" + n + ", 0)", x.all(n, 0), below[n]);
            Check.due("all(" + n + ", 1)", x.all(n, 1), n + 1);
        }
        int[] none = {Integer.MIN_VALUE, -1, 0, 13, Integer.MAX_VALUE};
        for (int n : none) {
            Check.due("all(" + n + ", 0)", x.all(n, 0), -1);
            Check.due("all(" + n + ", 1)", x.all(n, 1), -1);
        }
        for (int what : new int[] {-1, 2, Integer.MAX_VALUE, Integer.MIN_VALUE}) {
            Check.due("all(3, " + what + ")", x.all(3, what), -1);
        }
        x.weights(2, 3, 1);
        int[] of = {1, 0, 1, 1, 1, 1, 2, 1, 2, 2, 2, 2, 3};
        int sum = 1;
        for (int n = 1; n <= 12; n++) {
            Check.due("2, 3: all(" + n + ", 0)", x.all(n, 0), sum);
            Check.due("2, 3: all(" + n + ", 1)", x.all(n, 1), of[n]);
            sum += of[n];
        }
        x.ring(1, 2);
        Check.due("one: all(24, 0)", x.all(24, 0), 24);
        Check.due("one: all(24, 1)", x.all(24, 1), 1);
        Check.due("one: all(25, 0)", x.all(25, 0), -1);
        x.ring(3, 2);
        Check.due("three: all(8, 0)", x.all(8, 0), 120);
        Check.due("three: all(8, 1)", x.all(8, 1), 45);
        Check.due("three: all(9, 1)", x.all(9, 1), -1);
        x.weights(4, 4, 4);
        Check.due("4, 4, 4: all(8, 0)", x.all(8, 0), 4);
        Check.due("4, 4, 4: all(8, 1)", x.all(8, 1), 6);
        Check.due("4, 4, 4: all(7, 1)", x.all(7, 1), 0);
    }

    private static void look() {
        StairsNear x = new StairsNear();
        for (int what : new int[] {-1, 11, 12, Integer.MIN_VALUE, Integer.MAX_VALUE}) {
            Check.due("look(" + what + ")", x.look(what), -1);
        }
        Check.read(x, 0, "x");
        Check.read(x, 3, "y^2");
        Check.read(x, 7, "1");
        Check.due("look(6)", x.look(6), 1 + 8 + 128);
        x.make(1, 3, 3, 3);
        Check.due("look(6)", x.look(6), 1 + 128);
        x.weak(7, 255);
        looks("divided", x, 2, 32003, 1, 1, 1, 12, 129, 0, 1, 129, 7);
        x.weak(2, 8);
        looks("0 by 0", x, 2, 32003, 1, 1, 1, 12, 129, 0, 1, 0, 2);
        x.feed(0, 0, 0, 0, 0);
        Check.due("look(7)", x.look(7), 20);
    }
}
