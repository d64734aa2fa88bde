/** Promises 4 (feed), 5 (end), 6 (poly), 7 (fault), and the TEXT of item 1. */
public final class TapeTest {
    private static final int LEAST = Integer.MIN_VALUE;
    private static final int MOST = Integer.MAX_VALUE;
    private static int variables = 3;
    private static int prime = 101;

    public static void main(String[] args) {
        feedTwenty();
        feedHighestFirst();
        feedHowMany();
        feedTooMany();
        endFirstBytes();
        endTooMany();
        endBelowZero();
        polyEmptiesTheTape();
        polyOfASlot();
        polyWithAFault();
        polyOfNoSlot();
        faultOfTheLatest();
        placeOfTheLatest();
        faultOfAnotherWhat();
        tapeOf200();
        sumsOfTerms();
        factors();
        powers();
        numbers();
        numbersBehindHat();
        variablesOfTheRing();
        blanks();
        onlyBlanks();
        multiplied();
        oneMonomial();
        misplaced();
        tooManyDigits();
        atTheEnd();
        tooHigh();
        tooHighInOneTerm();
        leastByte();
        manyTerms();
        Check.finish();
    }

    private static void ring(int n, int p) {
        variables = n;
        prime = p;
    }

    private static Near near() {
        Near x = new Near();
        x.ring(variables, prime);
        return x;
    }

    private static void reads(String text, String want) {
        Near x = near();
        x.read(1, text);
        Check.due("fault(0) of \"" + text + "\"", x.fault(0), 0);
        Check.due("fault(1) of \"" + text + "\"", x.fault(1), -1);
        Check.due("\"" + text + "\"", x.shown(1), want);
    }

    private static void fails(String text, int fault, int place) {
        Near x = near();
        x.read(2, "7");
        Check.due("poly of \"" + text + "\"", x.read(2, text), -1);
        Check.due("fault(0) of \"" + text + "\"", x.fault(0), fault);
        Check.due("fault(1) of \"" + text + "\"", x.fault(1), place);
        Check.due("its slot stays", x.shown(2), "7");
        Check.due("its tape is empty", x.look(7), 0);
    }

    // ---- promise 4

    private static void feedTwenty() {
        Near x = Check.says("Promise 4", "Twenty bytes come behind THE TAPE,");
        x.feed(0x78782020, 0x20202020, 0x20202020, 0x20202020, 0x20202079);
        x.feed(0x792B2020, 0x20202020, 0x20202020, 0x20202020, 0x20202031);
        Check.due("forty", x.look(7), 40);
        Check.due("xx .. yy+ .. 1", x.poly(0), 2);
        Check.due("xx .. yy+ .. 1", x.shown(0), "1+x^2y^2");
    }

    private static void feedHighestFirst() {
        Near x = Check.says("Promise 4", "four of each number, the highest first:");
        x.feed(0x78795E32, 0x2B333435, 0x2D362078, 0x5E372079, 0x2B312020);
        Check.due("twenty bytes in a row", x.poly(0), 3);
        Check.due("twenty bytes in a row", x.shown(0), "346+xy^2+31997x^7y");
        int[] odd = {0x80000000, 0xFF000000, 0x00000000, 0x7F000000};
        for (int four : odd) {
            x.feed(four, 0, 0, 0, 0);
            x.end(1);
            Check.due("a byte alone", x.poly(0), -1);
            Check.due("a byte alone", x.fault(1), 0);
        }
        x.feed(0x78FF7878, 0, 0, 0, 0);
        x.end(4);
        Check.due("byte 255 behind x", x.poly(0), -1);
        Check.due("byte 255 behind x", x.fault(1), 1);
        // Bytes above 127 are no blanks, digits, VARIABLES, though their lower seven bits are.
        for (int high : new int[] {0xA0, 0xB1, 0xF8, 0xAB}) {
            x.feed(0x78000078 | high << 16 | high << 8, 0, 0, 0, 0);
            x.end(4);
            Check.due("byte " + high, x.poly(0), -1);
            Check.due("byte " + high, x.fault(1), 1);
        }
        x.feed(0x78790000, 0, 0, 0, 0);
        Check.due("byte 0", x.poly(0), -1);
        Check.due("byte 0", x.fault(1), 2);
        x.feed(LEAST, MOST, -1, 0, 1);
        Check.due("all that ints can be", x.poly(0), -1);
    }

    private static void feedHowMany() {
        Near x = Check.says("Promise 4", "how many it has.");
        Check.due("feed", x.feed(0, 0, 0, 0, 0), 20);
        Check.due("feed", x.feed(-1, LEAST, MOST, 0, 0), 40);
        x.end(3);
        Check.due("behind three", x.feed(0, 0, 0, 0, 0), 23);
        x.poly(0);
        Check.due("behind none", x.feed(0, 0, 0, 0, 0), 20);
    }

    private static void feedTooMany() {
        Near x = Check.says("Promise 4", "NONE, and none come, if there would be more than 200.");
        for (int i = 1; i <= 10; i++) {
            Check.due("feed " + i, x.feed(0x78202020, 0x20202020, 0x20202020, 0x20202020, 0x20202020), 20 * i);
        }
        Check.due("there would be 220", x.feed(0x77777777, 0x77777777, 0x77777777, 0x77777777, 0x77777777), -1);
        Check.due("none came", x.look(7), 200);
        Check.due("end(181)", x.end(181), true);
        Check.due("there would be 201", x.feed(0x77777777, 0x77777777, 0x77777777, 0x77777777, 0x77777777), -1);
        Check.due("none came", x.look(7), 181);
        Check.due("end(180)", x.end(180), true);
        Check.due("there would be 200", x.feed(0x79202020, 0x20202020, 0x20202020, 0x20202020, 0x20202079), 200);
        Check.due("what there is", x.poly(0), 1);
        Check.due("what there is", x.shown(0), "x^9y^2");
    }

    // ---- promise 5

    private static void endFirstBytes() {
        Near x = Check.says("Promise 5", "THE TAPE has its first n bytes alone: true;");
        x.feed(0x78797979, 0x79797979, 0x79797979, 0x79797979, 0x79797979);
        Check.due("end(20): all", x.end(20), true);
        Check.due("end(3)", x.end(3), true);
        Check.due("look(7)", x.look(7), 3);
        Check.due("xyy", x.poly(0), 1);
        Check.due("xyy", x.shown(0), "xy^2");
        x.feed(0x78797979, 0x79797979, 0x79797979, 0x79797979, 0x79797979);
        Check.due("end(0): none", x.end(0), true);
        Check.due("look(7)", x.look(7), 0);
        x.feed(0x32202020, 0x20202020, 0x20202020, 0x20202020, 0x20202020);
        x.poly(0);
        Check.due("behind none", x.shown(0), "2");
        Check.due("end(0) of none", x.end(0), true);
    }

    private static void endTooMany() {
        Near x = Check.says("Promise 5", "false if it has not so many,");
        Check.due("end(1) of none", x.end(1), false);
        x.feed(0x78202020, 0x20202020, 0x20202020, 0x20202020, 0x20202079);
        for (int n : new int[] {21, 22, 200, 201, MOST}) {
            Check.due("end(" + n + ") of 20", x.end(n), false);
            Check.due("it stays", x.look(7), 20);
        }
        x.end(5);
        Check.due("end(6) of 5", x.end(6), false);
        Check.due("end(20) of 5", x.end(20), false);
        Check.due("it stays", x.look(7), 5);
        Check.due("it stays", x.poly(0), 1);
        Check.due("it stays", x.shown(0), "x");
        for (int i = 0; i < 10; i++) {
            x.feed(0, 0, 0, 0, 0);
        }
        Check.due("end(201) of 200", x.end(201), false);
        Check.due("end(200) of 200", x.end(200), true);
    }

    private static void endBelowZero() {
        Near x = Check.says("Promise 5", "or n is below 0.");
        Check.due("end(-1) of none", x.end(-1), false);
        x.feed(0x78202020, 0x20202020, 0x20202020, 0x20202020, 0x20202079);
        for (int n : new int[] {-1, -2, -20, -200, LEAST}) {
            Check.due("end(" + n + ")", x.end(n), false);
            Check.due("it stays", x.look(7), 20);
        }
        Check.due("it stays", x.poly(0), 1);
        Check.due("it stays", x.shown(0), "xy");
    }

    // ---- promise 6

    private static void polyEmptiesTheTape() {
        Near x = Check.says("Promise 6", "THE TAPE (empty then, in any case)");
        String[] texts = {"x", "0", "x+", "w", "x^31"};
        for (String text : texts) {
            x.tape(text);
            x.poly(0);
            Check.due("empty behind " + text, x.look(7), 0);
            x.tape(text);
            x.poly(8);
            Check.due("empty behind " + text + " for no slot", x.look(7), 0);
            x.tape(text);
            x.poly(-1);
            Check.due("empty behind " + text + " for no slot", x.look(7), 0);
        }
        Check.due("the empty one", x.poly(0), -1);
        Check.due("the empty one", x.fault(1), 0);
    }

    private static void polyOfASlot() {
        Near x = Check.says("Promise 6", "is the POLYNOMIAL of a SLOT: how many TERMS.");
        for (int slot = 0; slot < 8; slot++) {
            Check.due("poly(" + slot + ")", x.read(slot, slot + "x+y"), slot == 0 ? 1 : 2);
        }
        for (int slot = 0; slot < 8; slot++) {
            Check.due("slot " + slot, x.shown(slot), (slot == 0 ? "" : slot == 1 ? "x+" : slot + "x+") + "y");
        }
        Check.due("poly of 0", x.read(3, "x-x"), 0);
        Check.due("it holds 0", x.look(6), 255 - 8);
        Check.due("shorter than what it held", x.read(1, "x"), 1);
        Check.due("shorter than what it held", x.shown(1), "x");
        Check.due("seven", x.read(1, "1+x+y+x^2+xy+y^2+x^3"), 7);
    }

    private static void polyWithAFault() {
        Near x = Check.says("Promise 6", "NONE if there is a FAULT,");
        x.read(0, "x+y");
        x.read(1, "x");
        x.weak(0, 2);
        x.show(0);
        int[][] faults = {{1, 2}, {2, 2}, {1, 0}};
        String[] texts = {"y-", "y-x^31", ""};
        for (int i = 0; i < texts.length; i++) {
            Check.due("poly(1) of \"" + texts[i] + "\"", x.read(1, texts[i]), -1);
            Check.due("slot 1 stays", x.term(1, 0, 1), 1);
            Check.due("slots stay", x.look(6), 3);
            Check.due("fault", x.fault(0), faults[i][0]);
            Check.due("place", x.fault(1), faults[i][1]);
            Check.due("the division stays", x.look(9), 2);
            Check.due("what was shown stays", x.shownLatest(), "x+y");
        }
        Check.due("poly(5) of a fault", x.read(5, "x^2+y^2+x^"), -1);
        Check.due("nothing came", x.look(6), 3);
    }

    private static void polyOfNoSlot() {
        Near x = Check.says("Promise 6", "or no such SLOT (all stays).");
        x.read(0, "x+y");
        x.read(1, "x");
        x.weak(0, 2);
        x.show(0);
        String before = x.state();
        for (int slot : new int[] {LEAST, -8, -1, 8, 9, 256, MOST}) {
            Check.due("poly(" + slot + ")", x.read(slot, "y^5"), -1);
            Check.due("poly(" + slot + ") of a fault", x.read(slot, "y^"), -1);
        }
        Check.due("all", x.state(), before);
        Check.due("the division stays", x.keptShown(3, 2), "1");
    }

    // ---- promise 7

    private static void faultOfTheLatest() {
        Near x = Check.says("Promise 7", "Of the latest poly() what 0 FAULT (0 without; for no such SLOT 0),");
        Check.due("none yet", x.fault(0), 0);
        x.read(0, "x");
        Check.due("without", x.fault(0), 0);
        x.read(0, "x^31");
        Check.due("with 2", x.fault(0), 2);
        x.read(0, "w");
        Check.due("with 1", x.fault(0), 1);
        x.read(0, "x");
        Check.due("without again", x.fault(0), 0);
        for (int slot : new int[] {LEAST, -1, 8, MOST}) {
            x.read(0, "x+");
            Check.due("with 1", x.fault(0), 1);
            x.tape("x+");
            Check.due("it stays by end(), feed()", x.fault(0), 1);
            x.read(slot, "x+");
            Check.due("poly(" + slot + ")", x.fault(0), 0);
        }
        x.read(0, "x+");
        x.make(0, 1, 1, 8);
        x.make(0, 1, 1, 1);
        x.show(0);
        Check.due("it stays by make(), show()", x.fault(0), 1);
    }

    private static void placeOfTheLatest() {
        Near x = Check.says("Promise 7", "1 its place (NONE without).");
        Check.due("none yet", x.fault(1), -1);
        x.read(0, "w");
        Check.due("the first byte", x.fault(1), 0);
        x.read(0, "x");
        Check.due("without", x.fault(1), -1);
        x.read(0, "x^2+yx^30x^5");
        Check.due("a VARIABLE", x.fault(1), 9);
        x.read(8, "w");
        Check.due("for no such slot", x.fault(1), -1);
        StringBuilder text = new StringBuilder("x");
        while (text.length() < 199) {
            text.append("+x");
        }
        x.read(0, text + "+");
        Check.due("the end of 200", x.fault(1), 200);
        x.read(0, text + "w");
        Check.due("the 200th byte", x.fault(1), 199);
        x.read(0, "1");
        Check.due("without again", x.fault(1), -1);
    }

    private static void faultOfAnotherWhat() {
        Near x = Check.says("Promise 7", "NONE for another what.");
        for (String text : new String[] {"x", "w", "x^31"}) {
            x.read(0, text);
            for (int what : new int[] {LEAST, -2, -1, 2, 3, MOST}) {
                Check.due("fault(" + what + ") of " + text, x.fault(what), -1);
            }
        }
    }

    // ---- TEXT

    private static void tapeOf200() {
        Near x = Check.says("Item 1", "TEXT of a POLYNOMIAL (THE TAPE, 200 bytes):");
        StringBuilder text = new StringBuilder("x");
        for (int i = 1; i < 100; i++) {
            text.append("+x");
        }
        text.append("x");
        Check.due("200 bytes", text.length(), 200);
        Check.due("all are read", x.read(0, text.toString()), 2);
        Check.due("all are read", x.shown(0), "99x+x^2");
    }

    private static void sumsOfTerms() {
        Check.says("Item 1", "POLY = [\"-\"] TERM {(\"+\" | \"-\") TERM}.");
        ring(3, 101);
        reads("x", "x");
        reads("-x", "100x");
        reads("-0", "0");
        reads("-1", "100");
        reads("z+y+x+1", "1+x+y+z");
        reads("-x-y+z", "100x+100y+z");
        reads("1-x", "1+100x");
        fails("", 1, 0);
        fails("+x", 1, 0);
        fails("+", 1, 0);
        fails("-", 1, 1);
        fails("--x", 1, 1);
        fails("-+x", 1, 1);
        fails("x+", 1, 2);
        fails("x-", 1, 2);
        fails("x++y", 1, 2);
        fails("x+-y", 1, 2);
        fails("x--y", 1, 2);
        fails("x-+y", 1, 2);
    }

    private static void factors() {
        Check.says("Item 1", "TERM = FACTOR {FACTOR}.");
        ring(3, 101);
        reads("2x3", "6x");
        reads("x2y3z4", "24xyz");
        reads("zyx", "xyz");
        reads("xx^2x", "x^4");
        reads("2 3", "6");
        reads("x^2 3", "3x^2");
        fails("x*y", 1, 1);
        fails("x()", 1, 1);
        fails("x,y", 1, 1);
    }

    private static void powers() {
        Check.says("Item 1", "FACTOR = NUMBER | VARIABLE [\"^\" NUMBER].");
        ring(3, 101);
        reads("7", "7");
        reads("y", "y");
        reads("y^7", "y^7");
        reads("x^0", "1");
        reads("x^1", "x");
        reads("x^0y^1z^2", "yz^2");
        reads("0x^30", "0");
        fails("2^3", 1, 1);
        fails("^2", 1, 0);
        fails("x^2^3", 1, 3);
        fails("x^^2", 1, 2);
        fails("x^y", 1, 2);
        fails("x^-1", 1, 2);
        fails("x^+y", 1, 2);
    }

    private static void numbers() {
        Check.says("Item 1", "NUMBER: 1 to 5 digits that stand together");
        ring(3, 32003);
        reads("0", "0");
        reads("9", "9");
        reads("00007", "7");
        reads("00000", "0");
        reads("99999", "3990");
        reads("12345x", "12345x");
        reads("x12345", "12345x");
        fails("123456", 1, 0);
        fails("000000", 1, 0);
        reads("12345 6", "10064");
        reads("1 2 3 4 5 6", "720");
    }

    private static void numbersBehindHat() {
        Check.says("Item 1", "(behind ^: 1 or 2);");
        ring(3, 101);
        reads("x^5", "x^5");
        reads("x^05", "x^5");
        reads("x^00", "1");
        reads("x^30", "x^30");
        fails("x^005", 1, 2);
        fails("x^000", 1, 2);
        fails("x^100", 1, 2);
        reads("x^30 12", "12x^30");
        reads("x^3 12345", "23x^3");
        fails("x^3 123456", 1, 4);
    }

    private static void variablesOfTheRing() {
        Check.says("Item 1", "VARIABLE: x, y, z (of the n).");
        ring(3, 101);
        reads("x+y+z", "x+y+z");
        fails("w", 1, 0);
        fails("{", 1, 0);
        fails("X", 1, 0);
        fails("xZ", 1, 1);
        ring(2, 101);
        reads("y+x", "x+y");
        fails("z", 1, 0);
        fails("xz", 1, 1);
        fails("x+yz^2", 1, 3);
        ring(1, 101);
        reads("x+1", "1+x");
        fails("y", 1, 0);
        fails("x^2y", 1, 3);
        fails("x+z", 1, 2);
    }

    private static void blanks() {
        Check.says("Item 1", "Between tokens blanks (32).");
        ring(3, 101);
        reads("x ^ 2 + 3 y - z", "3y+100z+x^2");
        reads("x  ^   2  +  3", "3+x^2");
        reads("- x", "100x");
        reads("2 3 x 4", "24x");
        reads("x y", "xy");
        reads("x^2 3y", "3x^2y");
        reads("x^1 2", "2x");
        reads("12 34 5", "20");
        // No digits, and no tokens, that blanks stand between.
        reads("1 0", "0");
        fails("x ^ y", 1, 4);
        fails("x ^2 ^3", 1, 5);
        fails("- - x", 1, 2);
        for (char other : new char[] {'\t', '\n', '\r', 0, 31, 33, 160, '_'}) {
            fails("x" + other + "y", 1, 1);
            fails(other + "x", 1, 0);
            fails("x" + other, 1, 1);
        }
    }

    private static void onlyBlanks() {
        Check.says("Item 1", "blanks (32).");
        ring(3, 101);
        // Behind the first and the last token there is one more: the begin, the end.
        reads("  x", "x");
        reads("x  ", "x");
        reads(" - 1 ", "100");
        fails(" ", 1, 1);
        fails("   ", 1, 3);
    }

    private static void multiplied() {
        Check.says("Item 1", "What is told is multiplied, added up");
        ring(3, 32003);
        reads("99999 99999 99999", Long.toString(99999L * 99999 % 32003 * 99999 % 32003));
        reads("32003", "0");
        reads("32002x", "32002x");
        reads("-32002", "1");
        ring(3, 32749);
        reads("32748 32748 32748 x", "32748x");
        ring(3, 101);
        reads("x-y-x", "100y");
        reads("-x-x-x", "98x");
        reads("50x+51x+y", "y");
        reads("0", "0");
        reads("x-x", "0");
        ring(3, 2);
        reads("x+x+y-y+z", "z");
        reads("-x", "x");
        reads("3xy+2z", "xy");
    }

    private static void oneMonomial() {
        Check.says("Item 1", "(TERMS of one MONOMIAL are one).");
        ring(3, 101);
        reads("xy+yx", "2xy");
        reads("xxy+yx^2+xyx", "3x^2y");
        reads("1+x^0+y^0z^0", "3");
        reads("z^2+yz+y^2+xz+xy+x^2+zz", "x^2+xy+xz+y^2+yz+2z^2");
        Near x = near();
        Check.due("how many", x.read(0, "x+y+x+y+x"), 2);
    }

    // ---- FAULTS

    private static void misplaced() {
        Check.says("Item 1", "1 what can't stand there");
        ring(3, 101);
        fails("(x)", 1, 0);
        fails("x)", 1, 1);
        fails("x+y)", 1, 3);
        fails("x/2", 1, 1);
        fails("1.5", 1, 1);
        fails("3:", 1, 1);
        fails("x=0", 1, 1);
        fails("x^w", 1, 2);
        fails("x+w", 1, 2);
        fails("x w", 1, 2);
        fails("x^2w", 1, 3);
    }

    private static void tooManyDigits() {
        Check.says("Item 1", "(a NUMBER of too many digits at its begin;");
        ring(3, 101);
        fails("123456", 1, 0);
        fails("  123456", 1, 2);
        fails("x+123456", 1, 2);
        fails("x + 1234567890123", 1, 4);
        fails("12345x123456", 1, 6);
        fails("x^100", 1, 2);
        fails("x^ 100", 1, 3);
        fails("x^123456", 1, 2);
        fails("-999999", 1, 1);
        fails("123456w", 1, 0);
    }

    private static void atTheEnd() {
        Check.says("Item 1", "the end: the length),");
        ring(3, 101);
        fails("", 1, 0);
        fails(" ", 1, 1);
        fails("-", 1, 1);
        fails("x+", 1, 2);
        fails("x + ", 1, 4);
        fails("x^", 1, 2);
        fails("x ^ ", 1, 4);
        fails("x^2-", 1, 4);
        StringBuilder text = new StringBuilder("x+".repeat(100));
        fails(text.toString(), 1, 200);
    }

    private static void tooHigh() {
        Check.says("Item 1", "2 a VARIABLE by which its EXPONENT in this TERM were above 30 (at it).");
        ring(3, 101);
        reads("x^30y^30z^30", "x^30y^30z^30");
        reads("x^15y^30x^15", "x^30y^30");
        reads("x^30x^0", "x^30");
        fails("x^31", 2, 0);
        fails("y^31", 2, 0);
        fails("z^31", 2, 0);
        fails("x^99", 2, 0);
        fails("2x^31", 2, 1);
        fails("0x^31", 2, 1);
        fails("x^30x", 2, 4);
        fails("x^20x^11", 2, 4);
        fails("x^20yx^11", 2, 5);
        fails("x^30yx x", 2, 5);
        fails("z^16 z ^ 15", 2, 5);
        fails("x^31-x^31", 2, 0);
        fails("x^30xx^0", 2, 4);
        fails("x".repeat(31), 2, 30);
    }

    private static void tooHighInOneTerm() {
        Check.says("Item 1", "its EXPONENT in this TERM");
        ring(3, 101);
        reads("x^30+x^30", "2x^30");
        reads("x^20-x^11", "100x^11+x^20");
        reads("x^30y^30+z^30y^30", "x^30y^30+y^30z^30");
        fails("y^10+y^15y^16", 2, 9);
    }

    private static void leastByte() {
        Check.says("Item 1", "FAULTS, the first whose byte is least, of one byte the least:");
        ring(3, 101);
        fails("x^31w", 2, 0);
        fails("wx^31", 1, 0);
        fails("x^31+y^", 2, 0);
        fails("x^31^", 2, 0);
        fails("x^30xw", 2, 4);
        fails("x^30x^w", 1, 6);
        fails("x^30x^", 1, 6);
        fails("x^30x^100", 1, 6);
        fails("123456x^31", 1, 0);
        fails("x^31 123456", 2, 0);
        fails("123456 w", 1, 0);
        fails("w 123456", 1, 0);
        fails("y^31x^31", 2, 0);
        fails("x^31+y^31", 2, 0);
    }

    /** 200 bytes can't tell more than 60 MONOMIALS, so that FAULT never comes; as many as there can be are read. */
    private static void manyTerms() {
        Near x = Check.says("Item 1", "Behind these 3 more than 60 TERMS (at the length).");
        x.ring(3, 101);
        String text = "1+x+y+z+xx+xy+xz+yy+yz+zz+x^3+x^4+x^5+x^6+x^7+x^8+x^9+y^3+y^4+y^5+y^6+y^7+y^8+y^9+z^3+z^4+z^5+z^6+z^7"
            + "+z^8+z^9+xxy+xxz+xyy+xyz+xzz+yyz+yzz+9xxx+9xyz+x^4y+x^4z+y^4z+y^4x+z^4x+z^4y+x^5y";
        Check.due("as many as there can be", x.read(0, text), 45);
        Check.due("no FAULT", x.fault(0), 0);
        x = new Near();
        Check.due("a hundred of one MONOMIAL", x.read(0, "x" + "+x".repeat(99)), 1);
        Check.due("a hundred of one MONOMIAL", x.shown(0), "100x");
    }
}
