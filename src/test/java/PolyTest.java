/** Promises 8 (show), 9 (out), 10 (term), 11 (shape), 12 (make), 13 (part). */
public final class PolyTest {
    private static final int[] NO_SLOTS = {-1, 8, Integer.MIN_VALUE, Integer.MAX_VALUE};
    private static StairsNear x = new StairsNear();

    public static void main(String[] args) {
        show();
        out();
        term();
        termOfAnotherWhat();
        shape();
        sums();
        products();
        productsTooLarge();
        makeWrong();
        parts();
        Check.finish();
    }

    private static void show() {
        x.ring(3, 101);
        Check.read(x, 0, "1");
        Check.due("1", Check.shown(x, 0), "1");
        Check.read(x, 0, "10+100x+x^10y^2z");
        Check.due("numbers", Check.shown(x, 0), "10+100x+x^10y^2z");
        Check.due("how many bytes", x.show(0), 16);
        Check.read(x, 0, "xyz+z^2+y^2+x^2+yz+xy+z+y+x");
        Check.due("by ORDER", Check.shown(x, 0), "x+y+z+x^2+xy+y^2+yz+z^2+xyz");
        Check.read(x, 0, "x^30y^20z^11");
        Check.due("two digits", Check.shown(x, 0), "x^30y^20z^11");
        x.ring(3, 32749);
        Check.read(x, 0, "32748+10000x+1000y+20001z");
        Check.due("five digits", Check.shown(x, 0), "32748+10000x+1000y+20001z");
    }

    private static void out() {
        Check.read(x, 0, "x+y");
        Check.read(x, 1, "5");
        Check.due("show(0)", x.show(0), 3);
        for (int slot : NO_SLOTS) {
            Check.due("show(" + slot + ")", x.show(slot), -1);
        }
        Check.due("out(2) stays", x.out(2), 'y');
        x.make(1, 0, 0, 0);
        Check.due("out(2) stays as it was", x.out(2), 'y');
        Check.due("out(3)", x.out(3), -1);
        Check.due("out(-1)", x.out(-1), -1);
        Check.due("out(most)", x.out(Integer.MAX_VALUE), -1);
        Check.due("out(least)", x.out(Integer.MIN_VALUE), -1);
        Check.due("show(1)", x.show(1), 1);
        Check.due("out(0)", x.out(0), '5');
        Check.due("out(1) of a shorter one", x.out(1), -1);
    }

    private static void term() {
        x.ring(3, 101);
        x.weights(2, 3, 4);
        Check.read(x, 5, "7x^3y^2z+4+zx");
        int[][] want = {{4, 0, 0, 0, 0}, {1, 1, 0, 1, 6}, {7, 3, 2, 1, 16}};
        for (int i = 0; i < 3; i++) {
            for (int what = 0; what < 5; what++) {
                Check.due("term(5, " + i + ", " + what + ")", x.term(5, i, what), want[i][what]);
            }
        }
        for (int what = 0; what < 5; what++) {
            Check.due("term(5, -1, " + what + ")", x.term(5, -1, what), 3);
            Check.due("term(5, 3, " + what + ")", x.term(5, 3, what), -1);
            Check.due("term(5, -2, " + what + ")", x.term(5, -2, what), -1);
            Check.due("term(0, 0, " + what + ")", x.term(0, 0, what), -1);
            Check.due("term(0, -1, " + what + ")", x.term(0, -1, what), 0);
            for (int slot : NO_SLOTS) {
                Check.due("term(" + slot + ", 0, " + what + ")", x.term(slot, 0, what), -1);
                Check.due("term(" + slot + ", -1, " + what + ")", x.term(slot, -1, what), -1);
            }
        }
        x.ring(1, 7);
        Check.read(x, 0, "x^2");
        Check.due("no y in it", x.term(0, 0, 2), 0);
        Check.due("no z in it", x.term(0, 0, 3), 0);
    }

    /** A TERM has no other what than 0 .. 4, but how many TERMS there are is told for every one. */
    private static void termOfAnotherWhat() {
        x.ring(3, 101);
        Check.read(x, 5, "7x^3y^2z+4+zx");
        for (int what : new int[] {-1, 5, -2, 6, Integer.MIN_VALUE, Integer.MAX_VALUE}) {
            Check.due("term(5, 0, " + what + ")", x.term(5, 0, what), -1);
            Check.due("term(5, 3, " + what + ")", x.term(5, 3, what), -1);
            Check.due("term(5, -2, " + what + ")", x.term(5, -2, what), -1);
            Check.due("term(5, -1, " + what + ")", x.term(5, -1, what), 3);
            Check.due("term(0, -1, " + what + ")", x.term(0, -1, what), 0);
            for (int slot : NO_SLOTS) {
                Check.due("term(" + slot + ", -1, " + what + ")", x.term(slot, -1, what), -1);
            }
        }
    }

    private static void shapeOf(String text, int... want) {
        Check.read(x, 2, text);
        for (int what = 0; what < 5; what++) {
            Check.due("shape " + what + " of " + text, x.shape(2, what), want[what]);
        }
    }

    private static void shape() {
        x.ring(2, 101);
        shapeOf("0", -1, -1, -1, 1, 0);
        shapeOf("5", 0, 0, 0, 1, 1);
        shapeOf("1+x", 0, 1, 1, 0, 1);
        shapeOf("x^2+y^3", 2, 3, 1, 0, 0);
        shapeOf("x^2+xy+y^2", 2, 2, 0, 1, 0);
        shapeOf("x^30y^30+y", 1, 60, 59, 0, 0);
        x.weights(3, 2, 1);
        shapeOf("x^2+y^3", 6, 6, 0, 1, 0);
        shapeOf("x+y", 2, 3, 1, 0, 0);
        for (int what : new int[] {-1, 5, Integer.MIN_VALUE, Integer.MAX_VALUE}) {
            Check.due("shape(2, " + what + ")", x.shape(2, what), -1);
        }
        for (int slot : NO_SLOTS) {
            for (int what = 0; what < 5; what++) {
                Check.due("shape(" + slot + ", " + what + ")", x.shape(slot, what), -1);
            }
        }
    }

    private static void makes(int how, int a, int b, int into, String want) {
        int many = x.make(how, a, b, into);
        Check.due("make(" + how + ", " + a + ", " + b + ", " + into + ")", Check.shown(x, into), want);
        Check.due("how many", many, x.term(into, -1, 0));
    }

    private static void sums() {
        x.ring(2, 101);
        Check.read(x, 0, "1+2x+3y");
        Check.read(x, 1, "99x+y+5xy");
        makes(0, 0, 1, 2, "1+4y+5xy");
        makes(1, 0, 1, 2, "1+4x+2y+96xy");
        makes(1, 1, 0, 3, "100+97x+99y+5xy");
        makes(0, 2, 3, 4, "0");
        makes(0, 0, 0, 0, "2+4x+6y");
        makes(0, 0, 4, 1, "2+4x+6y");
        makes(1, 4, 0, 0, "99+97x+95y");
        makes(0, 5, 6, 0, "0");
    }

    private static void products() {
        x.ring(2, 101);
        Check.read(x, 0, "x+y");
        Check.read(x, 1, "x-y");
        makes(2, 0, 1, 2, "x^2+100y^2");
        makes(2, 0, 0, 3, "x^2+2xy+y^2");
        makes(2, 0, 7, 3, "0");
        makes(2, 7, 0, 4, "0");
        Check.read(x, 5, "10");
        makes(2, 5, 5, 5, "100");
        makes(2, 5, 0, 0, "100x+100y");
        x.ring(2, 2);
        Check.read(x, 0, "1+x+y");
        makes(2, 0, 0, 0, "1+x^2+y^2");
        makes(2, 0, 0, 0, "1+x^4+y^4");
        x.ring(1, 32749);
        Check.read(x, 0, "32748+32748x");
        makes(2, 0, 0, 0, "1+2x+x^2");
    }

    /** 1 + v + .. up to a power, in a SLOT. */
    private static void row(int slot, char v, int power) {
        StringBuilder text = new StringBuilder("1");
        for (int i = 1; i <= power; i++) {
            text.append("+").append(v).append("^").append(i);
        }
        Check.due("a row", Check.read(x, slot, text.toString()), power + 1);
    }

    private static void productsTooLarge() {
        x.ring(2, 101);
        row(0, 'x', 9);
        row(1, 'y', 5);
        Check.due("60 terms", x.make(2, 0, 1, 2), 60);
        Check.due("60 terms shown", x.show(2), 340);
        Check.read(x, 3, "x^20");
        Check.due("61 by a sum", x.make(0, 2, 3, 4), -1);
        Check.due("61 by a difference", x.make(1, 3, 2, 4), -1);
        Check.due("nothing came", x.term(4, -1, 0), 0);
        Check.read(x, 3, "3x^9y^5");
        Check.due("60 by a sum", x.make(0, 2, 3, 4), 60);
        row(1, 'y', 6);
        Check.due("70 terms", x.make(2, 0, 1, 5), -1);
        Check.due("nothing came", x.term(5, -1, 0), 0);
        Check.read(x, 0, "1-x");
        row(1, 'x', 29);
        Check.due("what goes away", x.make(2, 0, 1, 5), 2);
        Check.due("what goes away", Check.shown(x, 5), "1+100x^30");
        row(1, 'x', 29);
        Check.read(x, 0, "1-x^2");
        Check.due("x^31", x.make(2, 0, 1, 6), -1);
        Check.read(x, 0, "1+x^15y^15");
        makes(2, 0, 0, 1, "1+2x^15y^15+x^30y^30");
        Check.read(x, 2, "y^16");
        Check.due("y^31", x.make(2, 0, 2, 6), -1);
        Check.due("nothing came", x.term(6, -1, 0), 0);
        x.ring(3, 101);
        Check.read(x, 0, "z^15");
        makes(2, 0, 0, 1, "z^30");
        Check.read(x, 1, "z^16");
        Check.due("z^31", x.make(2, 0, 1, 6), -1);
        Check.read(x, 0, "z^16");
        Check.due("z^32", x.make(2, 0, 0, 6), -1);
        row(0, 'x', 7);
        row(1, 'y', 6);
        Check.due("56 terms", x.make(2, 0, 1, 0), 56);
        row(2, 'z', 15);
        Check.due("896 terms", x.make(2, 0, 2, 6), -1);
        Check.read(x, 2, "1-x");
        Check.due("what goes away", x.make(2, 0, 2, 6), 14);
    }

    private static void makeWrong() {
        x.ring(2, 101);
        Check.read(x, 0, "x");
        for (int how : new int[] {-1, 3, Integer.MIN_VALUE, Integer.MAX_VALUE}) {
            Check.due("make(" + how + ", 0, 0, 1)", x.make(how, 0, 0, 1), -1);
        }
        for (int how = 0; how < 3; how++) {
            for (int slot : NO_SLOTS) {
                Check.due("make a " + slot, x.make(how, slot, 0, 1), -1);
                Check.due("make b " + slot, x.make(how, 0, slot, 1), -1);
                Check.due("make into " + slot, x.make(how, 0, 0, slot), -1);
            }
        }
        Check.due("nothing came", x.look(6), 1);
    }

    private static void parted(int slot, int v, int into, String want) {
        int many = x.part(slot, v, into);
        Check.due("part(" + slot + ", " + v + ", " + into + ")", Check.shown(x, into), want);
        Check.due("how many", many, x.term(into, -1, 0));
    }

    private static void parts() {
        x.ring(3, 5);
        Check.read(x, 0, "3+x^5+2x^3y^2z+x^6+yz");
        parted(0, 0, 1, "x^5+x^2y^2z");
        parted(0, 1, 2, "z+4x^3yz");
        parted(0, 2, 3, "y+2x^3y^2");
        parted(0, 3, 4, "3");
        parted(7, 0, 4, "0");
        parted(7, 3, 4, "0");
        Check.read(x, 5, "x^2+y^2+xyz+z^2+x^4");
        parted(5, 3, 6, "x^2+y^2+z^2");
        x.weights(2, 1, 1);
        parted(5, 3, 6, "y^2+z^2");
        x.weights(2, 2, 3);
        parted(5, 3, 5, "x^2+y^2");
        parted(5, 0, 5, "2x");
        for (int v : new int[] {-1, 4, Integer.MIN_VALUE, Integer.MAX_VALUE}) {
            Check.due("part(0, " + v + ", 7)", x.part(0, v, 7), -1);
        }
        for (int slot : NO_SLOTS) {
            Check.due("part of " + slot, x.part(slot, 0, 7), -1);
            Check.due("part into " + slot, x.part(0, 0, slot), -1);
            Check.due("lowest of " + slot, x.part(slot, 3, 7), -1);
        }
        Check.due("nothing came", x.term(7, -1, 0), 0);
        x.ring(1, 7);
        Check.read(x, 0, "x^2+x^3");
        Check.due("no y", x.part(0, 1, 1), -1);
        Check.due("no z", x.part(0, 2, 1), -1);
        parted(0, 3, 1, "x^2");
        parted(0, 0, 1, "2x+3x^2");
    }
}
