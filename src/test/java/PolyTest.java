/** Promises 8 (show), 9 (out), 10 (term), 11 (shape), 12 (make), 13 (part), and the POLYNOMIALS of item 1. */
public final class PolyTest {
    private static final int LEAST = Integer.MIN_VALUE;
    private static final int MOST = Integer.MAX_VALUE;
    private static final int[] NO_SLOTS = {LEAST, -8, -1, 8, 9, 256, MOST};

    public static void main(String[] args) {
        degrees();
        orderByDegree();
        orderOfLikeDegree();
        noNumberIsZero();
        atMostSixtyTerms();
        exponentsAtMostThirty();
        leads();
        lowHighEcart();
        slotsAtFirst();
        showTerms();
        showLongest();
        showNumbers();
        showVariables();
        showExponents();
        showZero();
        showOfNoSlot();
        outOfTheLatest();
        outOfNone();
        termTells();
        termTellsHowMany();
        termOfNone();
        shapeTellsDegrees();
        shapeTellsOneDegree();
        shapeTellsUnits();
        shapeOfNone();
        makeSumsAndDifferences();
        makeProducts();
        makeIntoItself();
        makeOfNone();
        makeOfSixtyTerms();
        makeOfThirty();
        partByVariables();
        partOfLow();
        partOfNone();
        Check.finish();
    }

    // ---- item 1

    private static void degrees() {
        Near x = Check.says("Item 1", "A MONOMIAL has EXPONENTS of these; its DEGREE is the sum of EXPONENTS times WEIGHTS.");
        x.ring(3, 101);
        x.read(0, "x^30y^30z^30");
        Check.due("by 1, 1, 1", x.term(0, 0, 4), 90);
        x.weights(4, 4, 4);
        Check.due("by 4, 4, 4", x.term(0, 0, 4), 360);
        x.read(0, "x^3y^5z^7");
        x.weights(2, 3, 4);
        Check.due("by 2, 3, 4", x.term(0, 0, 4), 6 + 15 + 28);
        x.read(0, "1");
        Check.due("of 1", x.term(0, 0, 4), 0);
    }

    private static void orderByDegree() {
        Near x = Check.says("Item 1", "ORDER of MONOMIALS: the one of less DEGREE first,");
        x.ring(3, 101);
        x.read(0, "x^3+y^2+z+1");
        Check.due("by 1, 1, 1", x.shown(0), "1+z+y^2+x^3");
        x.weights(1, 2, 4);
        Check.due("by 1, 2, 4", x.shown(0), "1+x^3+y^2+z");
        x.weights(1, 3, 4);
        Check.due("by 1, 3, 4", x.shown(0), "1+x^3+z+y^2");
        x.weights(4, 4, 4);
        x.read(0, "x^30y^30z^30+x^30y^30z^29+x");
        Check.due("as far as can be", x.shown(0), "x+x^30y^30z^29+x^30y^30z^30");
    }

    private static void orderOfLikeDegree() {
        Near x = Check.says("Item 1", "of like ones the one with the greater EXPONENT of x, then of y, of z.");
        x.ring(3, 101);
        x.read(0, "z^2+yz+y^2+xz+xy+x^2");
        Check.due("of DEGREE 2", x.shown(0), "x^2+xy+xz+y^2+yz+z^2");
        x.weights(2, 1, 1);
        x.read(0, "z^2+y^2+x+yz");
        Check.due("by 2, 1, 1", x.shown(0), "x+y^2+yz+z^2");
        x.weights(1, 1, 2);
        x.read(0, "z^2+y^2z+x^2z+xyz+y^4+x^4");
        Check.due("by 1, 1, 2", x.shown(0), "x^4+x^2z+xyz+y^4+y^2z+z^2");
        x.weights(4, 2, 1);
        x.read(0, "z^4+y^2+x+yz^2");
        Check.due("by 4, 2, 1", x.shown(0), "x+y^2+yz^2+z^4");
    }

    private static void noNumberIsZero() {
        Near x = Check.says("Item 1", "A POLYNOMIAL has TERMS (a MONOMIAL and a number that is not 0),");
        x.ring(2, 7);
        Check.due("7", x.read(0, "7"), 0);
        Check.due("x + 6x", x.read(0, "x+y+6x"), 1);
        Check.due("2x, 5x", x.read(0, "2x+y") + x.read(1, "5x+y"), 4);
        Check.due("their sum", x.make(0, 0, 1, 2), 1);
        Check.due("of one and itself the difference", x.make(1, 0, 0, 2), 0);
        Check.due("x^7 by x", x.read(0, "x^7+x^6"), 2);
        Check.due("x^7 by x", x.part(0, 0, 1), 1);
        x.read(0, "1+x");
        x.read(1, "1-x");
        Check.due("1 - x^2", x.make(2, 0, 1, 2), 2);
    }

    private static void atMostSixtyTerms() {
        Near x = Check.says("Item 1", "at most 60,");
        x.fill(0, 59, 'x', 'y');
        x.read(1, "x^30");
        Check.due("60", x.make(0, 0, 1, 0), 60);
        Check.due("60 are told", x.term(0, -1, 0), 60);
        Check.due("the 60th", x.term(0, 59, 1), 30);
        x.read(1, "x^29");
        Check.due("61", x.make(0, 0, 1, 0), -1);
        Check.due("60 stay", x.term(0, -1, 0), 60);
        Check.due("60 are moved", x.make(0, 0, 5, 6), 60);
        x.weights(1, 4, 1);
        Check.due("60 by other WEIGHTS", x.term(0, -1, 0), 60);
    }

    private static void exponentsAtMostThirty() {
        Near x = Check.says("Item 1", "EXPONENTS at most 30;");
        x.ring(3, 101);
        Check.due("30 is told", x.read(0, "x^30y^30z^30"), 1);
        Check.due("31 is not", x.read(1, "x^31"), -1);
        Check.due("30 is made", x.read(2, "x^15y^15z^15") + x.make(2, 2, 2, 3), 2);
        Check.due("30 is made", x.shown(3), "x^30y^30z^30");
        x.read(4, "z");
        Check.due("31 is not", x.make(2, 3, 4, 5), -1);
    }

    private static void leads() {
        Near x = Check.says("Item 1", "LEAD is its first TERM by ORDER;");
        x.read(0, "y^3+xy+y^2");
        Check.due("of a sum", x.term(0, 0, 1), 1);
        x.weights(3, 1, 1);
        Check.due("by 3, 1", x.term(0, 0, 2), 2);
        x.read(1, "y^2");
        Check.due("it divides y^2", x.weak(1, 1), 1 + 1);
        x.weights(1, 3, 1);
        Check.due("LEAD xy does not", x.weak(1, 1), 0);
    }

    private static void lowHighEcart() {
        Near x = Check.says("Item 1", "LOW the LEAD's DEGREE, HIGH the greatest DEGREE, ECART HIGH less LOW.");
        x.read(0, "x^2+y^3+x^30y^30");
        for (int what = 0; what < 3; what++) {
            Check.due("by 1, 1: " + what, x.shape(0, what), new int[] {2, 60, 58}[what]);
        }
        x.weights(4, 2, 1);
        for (int what = 0; what < 3; what++) {
            Check.due("by 4, 2: " + what, x.shape(0, what), new int[] {6, 180, 174}[what]);
        }
        x.read(0, "5");
        for (int what = 0; what < 3; what++) {
            Check.due("of a number: " + what, x.shape(0, what), 0);
        }
    }

    private static void slotsAtFirst() {
        Near x = Check.says("Item 1", "SLOTS 0 .. 7 hold POLYNOMIALS (0 at first).");
        for (int slot = 0; slot < 8; slot++) {
            Check.due("slot " + slot, x.shown(slot), "0");
        }
        for (int slot = 0; slot < 8; slot++) {
            Check.due("poly(" + slot + ")", x.read(slot, "x^" + (slot + 1)), 1);
        }
        for (int slot = 0; slot < 8; slot++) {
            Check.due("slot " + slot, x.term(slot, 0, 1), slot + 1);
        }
        Check.due("slot -1", x.show(-1), -1);
        Check.due("slot 8", x.show(8), -1);
    }

    // ---- promises 8, 9

    private static void showTerms() {
        Near x = Check.says("Promise 8", "A SLOT is SHOWN: its TERMS by ORDER, + between:");
        x.ring(3, 101);
        x.read(7, "xyz+z^2+y^2+x^2+yz+xy+z+y+x");
        Check.due("nine", x.shown(7), "x+y+z+x^2+xy+y^2+yz+z^2+xyz");
        x.read(0, "x");
        Check.due("one", x.shown(0), "x");
        x.read(0, "1-x");
        Check.due("no -", x.shown(0), "1+100x");
        x.fill(1, 60, 'x', 'z');
        x.read(2, "50y^15");
        x.make(2, 1, 2, 1);
        int many = x.show(1);
        Check.due("the last of sixty", x.out(many - 1), '9');
        Check.due("behind it", x.out(many), -1);
    }

    private static void showLongest() {
        Near x = Check.says("Promise 8", "how many bytes.");
        x.ring(3, 32749);
        x.read(0, "x^10+x^11+x^12+x^13+x^14+x^15+x^16+x^17+x^18+x^19");
        x.read(1, "-y^10z^30-y^11z^30-y^12z^30-y^13z^30-y^14z^30-y^15z^30");
        Check.due("60 TERMS", x.make(2, 0, 1, 2), 60);
        // 32748x^10y^10z^30: 17 bytes each, and 59 +.
        Check.due("bytes", x.show(2), 60 * 17 + 59);
        Check.due("the first", x.out(0), '3');
        Check.due("the last but one", x.out(1077), '3');
        Check.due("the last", x.out(1078), '0');
        Check.due("behind it", x.out(1079), -1);
    }

    private static void showNumbers() {
        Near x = Check.says("Promise 8", "the number (not 1, if the MONOMIAL has a VARIABLE),");
        x.ring(3, 32749);
        x.read(0, "1");
        Check.due("1", x.shown(0), "1");
        x.read(0, "1x+1y^2");
        Check.due("no 1", x.shown(0), "x+y^2");
        x.read(0, "10+100x+x^10y^2z");
        Check.due("others with a 1", x.shown(0), "10+100x+x^10y^2z");
        x.read(0, "32748+10000x+1000y+20001z+9xy");
        Check.due("of many digits", x.shown(0), "32748+10000x+1000y+20001z+9xy");
        x.ring(1, 2);
        x.read(0, "1+x");
        Check.due("modulo 2", x.shown(0), "1+x");
    }

    private static void showVariables() {
        Near x = Check.says("Promise 8", "VARIABLES of an EXPONENT above 0,");
        x.ring(3, 101);
        String[] texts = {"x", "y", "z", "xy", "xz", "yz", "xyz", "2", "2z"};
        for (String text : texts) {
            x.read(0, text);
            Check.due(text, x.shown(0), text);
        }
        x.read(0, "x^0y");
        Check.due("x^0", x.shown(0), "y");
    }

    private static void showExponents() {
        Near x = Check.says("Promise 8", "behind those above 1 ^ and the EXPONENT;");
        x.ring(3, 101);
        String[] texts = {"x^2", "y^9", "z^10", "x^30y^20z^11", "xy^2z", "2x^3"};
        for (String text : texts) {
            x.read(0, text);
            Check.due(text, x.shown(0), text);
        }
        x.read(0, "x^1y^1");
        Check.due("no ^1", x.shown(0), "xy");
    }

    private static void showZero() {
        Near x = Check.says("Promise 8", "\"0\" for 0: how many bytes.");
        Check.due("show(0)", x.show(0), 1);
        Check.due("out(0)", x.out(0), '0');
        Check.due("out(1)", x.out(1), -1);
        x.read(0, "10x^2+100y^30");
        Check.due("bytes", x.show(0), 13);
        x.read(0, "x-x");
        Check.due("0 again", x.show(0), 1);
        Check.due("0 again", x.out(0), '0');
    }

    private static void showOfNoSlot() {
        Near x = Check.says("Promise 8", "NONE if there is none such (what was SHOWN stays).");
        Check.due("show(8)", x.show(8), -1);
        Check.due("nothing is shown", x.out(0), -1);
        x.read(0, "x+y");
        x.read(1, "5");
        x.show(0);
        for (int slot : NO_SLOTS) {
            Check.due("show(" + slot + ")", x.show(slot), -1);
            Check.due("what was SHOWN", x.shownLatest(), "x+y");
        }
    }

    private static void outOfTheLatest() {
        Near x = Check.says("Promise 9", "The i-th byte of what was SHOWN latest.");
        x.read(0, "x+y");
        x.read(1, "5");
        x.show(0);
        Check.due("out(0)", x.out(0), 'x');
        Check.due("out(1)", x.out(1), '+');
        Check.due("out(2)", x.out(2), 'y');
        x.make(1, 0, 0, 0);
        x.weights(4, 1, 1);
        Check.due("as it was", x.shownLatest(), "x+y");
        x.show(1);
        Check.due("out(0) of another", x.out(0), '5');
        Check.due("out(1) of a shorter one", x.out(1), -1);
        x.ring(1, 2);
        Check.due("as it was", x.out(0), '5');
    }

    private static void outOfNone() {
        Near x = Check.says("Promise 9", "NONE if there is none such.");
        for (int i : new int[] {LEAST, -1, 0, 1, MOST}) {
            Check.due("nothing was shown: out(" + i + ")", x.out(i), -1);
        }
        x.read(0, "x+y");
        x.show(0);
        for (int i : new int[] {LEAST, -3, -1, 3, 4, 1079, 1080, MOST}) {
            Check.due("out(" + i + ")", x.out(i), -1);
        }
    }

    // ---- promise 10

    private static void termTells() {
        Near x = Check.says("Promise 10",
            "Of a SLOT's i-th TERM by ORDER what 0 the number, 1, 2, 3 EXPONENTS of x, y, z, 4 DEGREE;");
        x.ring(3, 101);
        x.weights(2, 3, 4);
        x.read(5, "7x^3y^2z+4+zx");
        int[][] want = {{4, 0, 0, 0, 0}, {1, 1, 0, 1, 6}, {7, 3, 2, 1, 16}};
        for (int i = 0; i < 3; i++) {
            for (int what = 0; what < 5; what++) {
                Check.due("term(5, " + i + ", " + what + ")", x.term(5, i, what), want[i][what]);
            }
        }
        x.ring(1, 7);
        x.read(0, "x^2");
        Check.due("no y in it", x.term(0, 0, 2), 0);
        Check.due("no z in it", x.term(0, 0, 3), 0);
    }

    private static void termTellsHowMany() {
        Near x = Check.says("Promise 10", "i NONE: how many TERMS.");
        x.read(5, "7x^3y^2+4+y");
        for (int what : new int[] {LEAST, -2, -1, 0, 1, 2, 3, 4, 5, 6, MOST}) {
            Check.due("term(5, -1, " + what + ")", x.term(5, -1, what), 3);
            Check.due("term(0, -1, " + what + ")", x.term(0, -1, what), 0);
            for (int slot : NO_SLOTS) {
                Check.due("term(" + slot + ", -1, " + what + ")", x.term(slot, -1, what), -1);
            }
        }
    }

    private static void termOfNone() {
        Near x = Check.says("Promise 10", "NONE if there is none such, or another what.");
        x.read(5, "7x^3y^2+4+y");
        for (int what = 0; what < 5; what++) {
            for (int i : new int[] {LEAST, -2, 3, 4, 60, MOST}) {
                Check.due("term(5, " + i + ", " + what + ")", x.term(5, i, what), -1);
            }
            Check.due("of 0: term(0, 0, " + what + ")", x.term(0, 0, what), -1);
            for (int slot : NO_SLOTS) {
                Check.due("term(" + slot + ", 0, " + what + ")", x.term(slot, 0, what), -1);
            }
        }
        for (int what : new int[] {LEAST, -2, -1, 5, 6, MOST}) {
            Check.due("term(5, 0, " + what + ")", x.term(5, 0, what), -1);
            Check.due("term(5, 2, " + what + ")", x.term(5, 2, what), -1);
            Check.due("term(5, 3, " + what + ")", x.term(5, 3, what), -1);
        }
    }

    // ---- promise 11

    private static void shapeIs(Near x, String text, int from, int... want) {
        x.read(2, text);
        for (int i = 0; i < want.length; i++) {
            Check.due("shape " + (from + i) + " of " + text, x.shape(2, from + i), want[i]);
        }
    }

    private static void shapeTellsDegrees() {
        Near x = Check.says("Promise 11", "Of a SLOT what 0 LOW, 1 HIGH, 2 ECART (NONE for 0, all three),");
        shapeIs(x, "0", 0, -1, -1, -1);
        shapeIs(x, "x-x", 0, -1, -1, -1);
        shapeIs(x, "5", 0, 0, 0, 0);
        shapeIs(x, "1+x", 0, 0, 1, 1);
        shapeIs(x, "x^2+y^3", 0, 2, 3, 1);
        shapeIs(x, "x^30y^30+y", 0, 1, 60, 59);
        x.weights(3, 2, 1);
        shapeIs(x, "x^2+y^3", 0, 6, 6, 0);
        shapeIs(x, "x+y", 0, 2, 3, 1);
    }

    private static void shapeTellsOneDegree() {
        Near x = Check.says("Promise 11", "3 whether all TERMS are of one DEGREE (1, 0; 1 for 0),");
        shapeIs(x, "0", 3, 1);
        shapeIs(x, "5", 3, 1);
        shapeIs(x, "1+x", 3, 0);
        shapeIs(x, "x^2+xy+y^2", 3, 1);
        shapeIs(x, "x^2+xy+y^3", 3, 0);
        shapeIs(x, "x+x^2+y^2", 3, 0);
        x.weights(3, 2, 1);
        shapeIs(x, "x^2+y^3", 3, 1);
        shapeIs(x, "x^2+xy+y^2", 3, 0);
    }

    private static void shapeTellsUnits() {
        Near x = Check.says("Promise 11", "4 whether it is a unit (its number of MONOMIAL 1 is not 0).");
        shapeIs(x, "0", 4, 0);
        shapeIs(x, "5", 4, 1);
        shapeIs(x, "32002+x", 4, 1);
        shapeIs(x, "32003+x", 4, 0);
        shapeIs(x, "x", 4, 0);
        shapeIs(x, "x^0+y", 4, 1);
        shapeIs(x, "1-1+y", 4, 0);
    }

    private static void shapeOfNone() {
        Near x = Check.says("Promise 11", "NONE if there is none such, or another what.");
        x.read(2, "1+x");
        for (int what : new int[] {LEAST, -2, -1, 5, 6, MOST}) {
            Check.due("shape(2, " + what + ")", x.shape(2, what), -1);
            Check.due("shape(0, " + what + ")", x.shape(0, what), -1);
        }
        for (int slot : NO_SLOTS) {
            for (int what = -1; what < 6; what++) {
                Check.due("shape(" + slot + ", " + what + ")", x.shape(slot, what), -1);
            }
        }
    }

    // ---- promise 12

    private static void makes(Near x, int how, int a, int b, int into, String want) {
        int many = x.make(how, a, b, into);
        Check.due("make(" + how + ", " + a + ", " + b + ", " + into + ")", x.shown(into), want);
        Check.due("how many", many, x.term(into, -1, 0));
    }

    private static void makeSumsAndDifferences() {
        Near x = Check.says("Promise 12", "The sum (how 0), difference (1),");
        x.ring(2, 101);
        x.read(0, "1+2x+3y");
        x.read(1, "99x+y+5xy");
        makes(x, 0, 0, 1, 2, "1+4y+5xy");
        makes(x, 1, 0, 1, 2, "1+4x+2y+96xy");
        makes(x, 1, 1, 0, 3, "100+97x+99y+5xy");
        makes(x, 0, 2, 3, 4, "0");
        makes(x, 0, 0, 4, 7, "1+2x+3y");
        makes(x, 0, 4, 0, 7, "1+2x+3y");
        makes(x, 1, 4, 0, 7, "100+99x+98y");
        makes(x, 1, 0, 0, 7, "0");
        makes(x, 0, 5, 6, 7, "0");
        x.ring(1, 32749);
        x.read(0, "32748x");
        makes(x, 0, 0, 0, 1, "32747x");
        makes(x, 1, 2, 0, 1, "x");
        x.ring(1, 2);
        x.read(0, "1+x");
        makes(x, 0, 0, 0, 1, "0");
        makes(x, 1, 2, 0, 1, "1+x");
    }

    private static void makeProducts() {
        Near x = Check.says("Promise 12", "product (2) of two SLOTS comes into a SLOT: how many TERMS.");
        x.ring(2, 101);
        x.read(0, "x+y");
        x.read(1, "x-y");
        makes(x, 2, 0, 1, 2, "x^2+100y^2");
        makes(x, 2, 1, 0, 2, "x^2+100y^2");
        makes(x, 2, 0, 0, 3, "x^2+2xy+y^2");
        makes(x, 2, 0, 7, 3, "0");
        makes(x, 2, 7, 0, 4, "0");
        makes(x, 2, 7, 7, 4, "0");
        x.ring(2, 2);
        x.read(0, "1+x+y");
        makes(x, 2, 0, 0, 1, "1+x^2+y^2");
        x.ring(1, 32749);
        x.read(0, "32748+32748x");
        makes(x, 2, 0, 0, 1, "1+2x+x^2");
        x.ring(3, 7);
        x.weights(3, 1, 2);
        x.read(0, "x+y+z");
        makes(x, 2, 0, 0, 1, "y^2+2yz+2xy+z^2+2xz+x^2");
    }

    private static void makeIntoItself() {
        Near x = Check.says("Promise 12", "comes into a SLOT:");
        x.ring(2, 101);
        x.read(0, "1+2x");
        x.read(1, "y");
        makes(x, 0, 0, 1, 0, "1+2x+y");
        makes(x, 1, 0, 1, 1, "1+2x");
        makes(x, 2, 1, 1, 1, "1+4x+4x^2");
        makes(x, 0, 1, 1, 1, "2+8x+8x^2");
        makes(x, 1, 1, 1, 1, "0");
        Check.due("the other stays", x.shown(0), "1+2x+y");
    }

    private static void makeOfNone() {
        Near x = Check.says("Promise 12", "NONE, and nothing comes, if there is none such,");
        x.read(0, "x");
        x.read(1, "y");
        x.weak(0, 1);
        x.show(0);
        String before = x.state();
        for (int how : new int[] {LEAST, -2, -1, 3, 4, MOST}) {
            Check.due("make(" + how + ", 0, 1, 1)", x.make(how, 0, 1, 1), -1);
        }
        for (int how = 0; how < 3; how++) {
            for (int slot : NO_SLOTS) {
                Check.due("make a " + slot, x.make(how, slot, 0, 1), -1);
                Check.due("make b " + slot, x.make(how, 0, slot, 1), -1);
                Check.due("make into " + slot, x.make(how, 0, 0, slot), -1);
            }
        }
        Check.due("all", x.state(), before);
    }

    /** 1 + v + .. up to a power, in a SLOT. */
    private static void row(Near x, int slot, char v, int power) {
        StringBuilder text = new StringBuilder("1");
        for (int i = 1; i <= power; i++) {
            text.append("+").append(v).append("^").append(i);
        }
        Check.due("a row", x.read(slot, text.toString()), power + 1);
    }

    private static void makeOfSixtyTerms() {
        Near x = Check.says("Promise 12", "or it were more than 60 TERMS,");
        row(x, 0, 'x', 9);
        row(x, 1, 'y', 5);
        Check.due("a product of 60", x.make(2, 0, 1, 2), 60);
        x.read(3, "x^20");
        x.read(4, "y^7");
        Check.due("a sum of 61", x.make(0, 2, 3, 4), -1);
        Check.due("a difference of 61", x.make(1, 3, 2, 4), -1);
        Check.due("nothing came", x.shown(4), "y^7");
        x.read(3, "3x^9y^5");
        Check.due("a sum of 60", x.make(0, 2, 3, 4), 60);
        Check.due("a difference of 60", x.make(1, 3, 2, 4), 60);
        row(x, 1, 'y', 6);
        x.read(5, "y^7");
        Check.due("a product of 70", x.make(2, 0, 1, 5), -1);
        Check.due("nothing came", x.shown(5), "y^7");
        // 60, and y^6 by the last.
        x.read(1, "1+y+y^2+y^3+y^4+y^5");
        x.read(6, "1+x+x^2+x^3+x^4+x^5+x^6+x^7+x^8+x^9+y");
        Check.due("a product of 61", x.make(2, 6, 1, 5), -1);
        Check.due("nothing came", x.shown(5), "y^7");
        x.read(0, "1-x");
        row(x, 1, 'x', 29);
        Check.due("what goes away", x.make(2, 0, 1, 5), 2);
        Check.due("what goes away", x.shown(5), "1+32002x^30");
    }

    private static void makeOfThirty() {
        Near x = Check.says("Promise 12", "an EXPONENT above 30.");
        x.ring(3, 101);
        x.read(7, "7");
        for (String v : new String[] {"x", "y", "z"}) {
            x.read(0, v + "^15");
            x.read(1, v + "^16");
            makes(x, 2, 0, 0, 2, v + "^30");
            Check.due(v + "^31", x.make(2, 0, 1, 7), -1);
            Check.due(v + "^32", x.make(2, 1, 1, 7), -1);
            x.read(0, v + "^30");
            Check.due(v + "^60", x.make(2, 0, 0, 7), -1);
            Check.due("nothing came", x.shown(7), "7");
        }
        x.read(0, "1+x^15y^15");
        makes(x, 2, 0, 0, 1, "1+2x^15y^15+x^30y^30");
        row(x, 1, 'x', 29);
        x.read(0, "1-x^2");
        Check.due("x^31", x.make(2, 0, 1, 7), -1);
        x.read(0, "x^30");
        makes(x, 2, 0, 6, 1, "0");
        Check.due("nothing came", x.shown(7), "7");
    }

    // ---- promise 13

    private static void parted(Near x, int slot, int v, int into, String want) {
        int many = x.part(slot, v, into);
        Check.due("part(" + slot + ", " + v + ", " + into + ")", x.shown(into), want);
        Check.due("how many", many, x.term(into, -1, 0));
    }

    private static void partByVariables() {
        Near x = Check.says("Promise 13", "The PART of a SLOT by VARIABLE v (0 .. n less 1),");
        x.ring(3, 5);
        x.read(0, "3+x^5+2x^3y^2z+x^6+yz");
        parted(x, 0, 0, 1, "x^5+x^2y^2z");
        parted(x, 0, 1, 2, "z+4x^3yz");
        parted(x, 0, 2, 3, "y+2x^3y^2");
        parted(x, 6, 0, 4, "0");
        x.read(5, "4");
        parted(x, 5, 2, 4, "0");
        parted(x, 0, 0, 0, "x^5+x^2y^2z");
        x.read(5, "x^30+x^29+x^28");
        parted(x, 5, 0, 5, "3x^27+4x^28");
        x.ring(2, 7);
        x.read(0, "xy");
        parted(x, 0, 1, 1, "x");
        Check.due("v 2 of two", x.part(0, 2, 1), -1);
        x.ring(1, 7);
        x.read(0, "x^2+x^3");
        parted(x, 0, 0, 1, "2x+3x^2");
        Check.due("v 1 of one", x.part(0, 1, 1), -1);
        Check.due("v 2 of one", x.part(0, 2, 1), -1);
        Check.due("nothing came", x.shown(1), "2x+3x^2");
        x.ring(1, 2);
        x.read(0, "1+x^2+x^30");
        parted(x, 0, 0, 1, "0");
    }

    private static void partOfLow() {
        Near x = Check.says("Promise 13", "for v 3 its TERMS of DEGREE LOW alone, comes into a SLOT: how many TERMS.");
        for (int n = 1; n <= 3; n++) {
            x.ring(n, 7);
            x.read(0, "3x^2+x^3");
            parted(x, 0, 3, 1, "3x^2");
        }
        parted(x, 7, 3, 1, "0");
        x.read(0, "5");
        parted(x, 0, 3, 1, "5");
        x.read(0, "x^2+y^2+xyz+z^2+x^4");
        parted(x, 0, 3, 1, "x^2+y^2+z^2");
        x.weights(2, 1, 1);
        parted(x, 0, 3, 1, "y^2+z^2");
        x.weights(2, 2, 3);
        parted(x, 0, 3, 0, "x^2+y^2");
        parted(x, 0, 3, 2, "x^2+y^2");
    }

    private static void partOfNone() {
        Near x = Check.says("Promise 13", "NONE if there is none such.");
        x.ring(3, 7);
        x.read(0, "x^2+yz");
        x.read(7, "x");
        x.weak(0, 1);
        x.show(0);
        String before = x.state();
        for (int v : new int[] {LEAST, -2, -1, 4, 5, MOST}) {
            Check.due("part(0, " + v + ", 7)", x.part(0, v, 7), -1);
        }
        for (int v = 0; v < 4; v++) {
            for (int slot : NO_SLOTS) {
                Check.due("part(" + slot + ", " + v + ", 7)", x.part(slot, v, 7), -1);
                Check.due("part(0, " + v + ", " + slot + ")", x.part(0, v, slot), -1);
            }
        }
        Check.due("all", x.state(), before);
    }
}
