/** Promises 4 (feed), 5 (end), 6 (poly), 7 (fault), and the TEXT of item 1. */
public final class TapeTest {
    private static StairsNear x = new StairsNear();

    public static void main(String[] args) {
        feedAndEnd();
        bytes();
        texts();
        blanks();
        numbers();
        misplaced();
        tooHigh();
        fewerVariables();
        manyTerms();
        slots();
        Check.finish();
    }

    private static void reads(String text, String want) {
        Check.read(x, 1, text);
        Check.due("fault(0) of \"" + text + "\"", x.fault(0), 0);
        Check.due("fault(1) of \"" + text + "\"", x.fault(1), -1);
        Check.due("\"" + text + "\"", Check.shown(x, 1), want);
    }

    private static void fails(String text, int fault, int place) {
        Check.read(x, 2, "7");
        Check.due("poly of \"" + text + "\"", Check.read(x, 2, text), -1);
        Check.due("fault(0) of \"" + text + "\"", x.fault(0), fault);
        Check.due("fault(1) of \"" + text + "\"", x.fault(1), place);
        Check.due("its slot stays", Check.shown(x, 2), "7");
        Check.due("its tape is empty", x.look(7), 0);
    }

    private static void feedAndEnd() {
        for (int i = 1; i <= 10; i++) {
            Check.due("feed " + i, x.feed(0x31203120, 0x31203120, 0x31203120, 0x31203120, 0x31203120), 20 * i);
        }
        Check.due("an 11th", x.feed(0, 0, 0, 0, 0), -1);
        Check.due("none came", x.look(7), 200);
        Check.due("end(201)", x.end(201), false);
        Check.due("end(-1)", x.end(-1), false);
        Check.due("end(least)", x.end(Integer.MIN_VALUE), false);
        Check.due("end(most)", x.end(Integer.MAX_VALUE), false);
        Check.due("end(200)", x.end(200), true);
        Check.due("end(181)", x.end(181), true);
        Check.due("there would be 201", x.feed(0, 0, 0, 0, 0), -1);
        Check.due("none came", x.look(7), 181);
        Check.due("end(180)", x.end(180), true);
        Check.due("200 again", x.feed(0, 0, 0, 0, 0), 200);
        Check.due("end(5)", x.end(5), true);
        Check.due("end(6)", x.end(6), false);
        Check.due("look(7)", x.look(7), 5);
        Check.due("1 1 1", x.poly(0), 1);
        Check.due("1 1 1", Check.shown(x, 0), "1");
        Check.due("end(0)", x.end(0), true);
        Check.due("end(1)", x.end(1), false);
    }

    private static void bytes() {
        x.feed(0x78795E32, 0x2B333435, 0x2D362078, 0x5E372079, 0x2B312020);
        Check.due("twenty bytes in a row", x.poly(0), 3);
        Check.due("twenty bytes in a row", Check.shown(x, 0), "346+xy^2+31997x^7y");
        x.feed(0x78FF0000, 0, 0, 0, 0);
        x.end(2);
        Check.due("byte 255", x.poly(0), -1);
        Check.due("byte 255", x.fault(1), 1);
        x.feed(0x80000000, 0, 0, 0, 0);
        x.end(1);
        Check.due("byte 128", x.poly(0), -1);
        Check.due("byte 128", x.fault(1), 0);
        x.feed(0x78790000, 0, 0, 0, 0);
        Check.due("byte 0", x.poly(0), -1);
        Check.due("byte 0", x.fault(1), 2);
    }

    private static void texts() {
        x.ring(3, 101);
        reads("0", "0");
        reads("1", "1");
        reads("x", "x");
        reads("-x", "100x");
        reads("-0", "0");
        reads("-1", "100");
        reads("z+y+x+1", "1+x+y+z");
        reads("zyx", "xyz");
        reads("x2y3z4", "24xyz");
        reads("2x3", "6x");
        reads("xx^2x", "x^4");
        reads("x^0", "1");
        reads("x^0y^1z^2", "yz^2");
        reads("x^00", "1");
        reads("x^02", "x^2");
        reads("0x^30", "0");
        reads("x-x", "0");
        reads("x-y-x", "100y");
        reads("-x-x-x", "98x");
        reads("xy+yx", "2xy");
        reads("x^30y^30z^30", "x^30y^30z^30");
        reads("50x+51x+y", "y");
        reads("z^2+yz+y^2+xz+xy+x^2", "x^2+xy+xz+y^2+yz+z^2");
        x.ring(3, 2);
        reads("x+x+y-y+z", "z");
        reads("-x", "x");
        reads("3xy+2z", "xy");
    }

    private static void blanks() {
        x.ring(3, 101);
        reads("x ^ 2 + 3 y - z", "3y+100z+x^2");
        reads("- x", "100x");
        reads("2 3", "6");
        reads("2 3 x 4", "24x");
        reads("x y", "xy");
        reads("x^2 3", "3x^2");
        reads("x^2 3y", "3x^2y");
        reads("12 34 5", "20");
        reads("  x", "x");
        reads("x  ", "x");
        reads(" - 1 ", "100");
        fails("   ", 1, 3);
        fails("x + ", 1, 4);
        fails("x ^ ", 1, 4);
        fails("x ^ y", 1, 4);
        fails("x ^2 ^3", 1, 5);
    }

    private static void numbers() {
        x.ring(3, 32003);
        reads("99999", "3990");
        reads("00007", "7");
        reads("32003", "0");
        reads("32002x", "32002x");
        reads("99999 99999 99999", Long.toString(99999L * 99999 % 32003 * 99999 % 32003));
        fails("123456", 1, 0);
        fails("000000", 1, 0);
        fails("x+123456", 1, 2);
        fails("x + 1234567890123", 1, 4);
        fails("12345x123456", 1, 6);
        fails("x^100", 1, 2);
        fails("x^ 100", 1, 3);
        fails("x^000", 1, 2);
        fails("x^123456", 1, 2);
        reads("x^30 123", "123x^30");
        reads("x^3 12345", "12345x^3");
    }

    private static void misplaced() {
        x.ring(3, 101);
        fails("", 1, 0);
        fails("+x", 1, 0);
        fails("+", 1, 0);
        fails("-", 1, 1);
        fails("--x", 1, 1);
        fails("-+x", 1, 1);
        fails("x+", 1, 2);
        fails("x-", 1, 2);
        fails("x+-y", 1, 2);
        fails("x--y", 1, 2);
        fails("x^", 1, 2);
        fails("x^y", 1, 2);
        fails("x^-1", 1, 2);
        fails("^2", 1, 0);
        fails("2^3", 1, 1);
        fails("x^2^3", 1, 3);
        fails("x^+y", 1, 2);
        fails("x*y", 1, 1);
        fails("(x)", 1, 0);
        fails("x)", 1, 1);
        fails("w", 1, 0);
        fails("{", 1, 0);
        fails("X", 1, 0);
        fails("x/2", 1, 1);
        fails("1.5", 1, 1);
        fails("3:", 1, 1);
        fails("x\t", 1, 1);
        fails("x\n", 1, 1);
    }

    private static void tooHigh() {
        x.ring(3, 101);
        fails("x^31", 2, 0);
        fails("x^99", 2, 0);
        fails("2x^31", 2, 1);
        fails("0x^31", 2, 1);
        fails("x^30x", 2, 4);
        fails("x^20x^11", 2, 4);
        fails("x^20yx^11", 2, 5);
        fails("x^30yx x", 2, 5);
        fails("y^10+y^15y^16", 2, 9);
        fails("z^16 z ^ 15", 2, 5);
        fails("x^31w", 2, 0);
        fails("x^31^", 2, 0);
        fails("x^30xw", 2, 4);
        fails("x^30x^w", 1, 6);
        fails("x^30x^", 1, 6);
        fails("x^30x^100", 1, 6);
        fails("wx^31", 1, 0);
        fails("123456x^31", 1, 0);
        fails("x^31 123456", 2, 0);
        reads("x^30x^0", "x^30");
        reads("x^15y^30x^15+x^30", "x^30+x^30y^30");
    }

    private static void fewerVariables() {
        x.ring(2, 101);
        reads("y+x", "x+y");
        fails("z", 1, 0);
        fails("xz", 1, 1);
        x.ring(1, 101);
        reads("x+1", "1+x");
        fails("y", 1, 0);
        fails("x^2y", 1, 3);
        fails("x+z", 1, 2);
    }

    private static void manyTerms() {
        x.ring(3, 101);
        StringBuilder text = new StringBuilder("x");
        for (int i = 1; i < 100; i++) {
            text.append("+x");
        }
        reads(text.toString(), "100x");
        text.append("+");
        fails(text.toString(), 1, 200);
        x.ring(3, 101);
        Check.due("as many as can be told",
            Check.read(x, 0, "1+x+y+z+xx+xy+xz+yy+yz+zz+x^3+y^3+z^3+x^4+y^4+z^4+x^5+y^5+z^5+x^6+y^6+z^6+x^7+y^7+z^7"
                + "+x^8+y^8+z^8+x^9+y^9+z^9+xxy+xxz+xyy+xyz+xzz+yyz+yzz+x^4y+x^4z+y^4z+y^4x+z^4x+z^4y+x^5y+x^5z+y^5z"), 47);
    }

    private static void slots() {
        x.ring(2, 101);
        for (int slot : new int[] {-1, 8, Integer.MIN_VALUE, Integer.MAX_VALUE}) {
            Check.read(x, 0, "x+");
            Check.due("a fault", x.fault(0), 1);
            Check.due("poly(" + slot + ")", Check.read(x, slot, "x"), -1);
            Check.due("fault(0)", x.fault(0), 0);
            Check.due("fault(1)", x.fault(1), -1);
            Check.due("its tape is empty", x.look(7), 0);
            Check.due("poly(" + slot + ") of a fault", Check.read(x, slot, "x+"), -1);
            Check.due("fault(0)", x.fault(0), 0);
        }
        for (int slot = 0; slot < 8; slot++) {
            Check.due("poly(" + slot + ")", Check.read(x, slot, slot + "x+y"), slot == 0 ? 1 : 2);
        }
        for (int slot = 0; slot < 8; slot++) {
            Check.due("slot " + slot, Check.shown(x, slot), (slot == 0 ? "" : slot == 1 ? "x+" : slot + "x+") + "y");
        }
        for (int what : new int[] {-1, 2, 3, Integer.MIN_VALUE, Integer.MAX_VALUE}) {
            Check.due("fault(" + what + ")", x.fault(what), -1);
        }
        Check.read(x, 0, "w");
        Check.due("fault(2)", x.fault(2), -1);
        Check.read(x, 0, "x");
        Check.due("the latest had none", x.fault(0), 0);
    }
}
