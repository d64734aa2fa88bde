/** Promises 17 (corners), 18 (corner), 19 (stairs), 20 (stair), 21 (rest), 22 (length), 23 (number), and item 3. */
public final class IdealTest {
    private static final int LEAST = Integer.MIN_VALUE;
    private static final int MOST = Integer.MAX_VALUE;
    private static final int[] NO_SLOTS = {LEAST, -8, -1, 8, 9, 256, MOST};
    private static final int[] NO_SETS = {LEAST, -256, -1, 256, 257, 258, MOST};

    public static void main(String[] args) {
        setsAsBits();
        slotsOfZero();
        boundOfN();
        everyN();
        allSums();
        allOfDegreeN();
        leads();
        stairIsAllOthers();
        cornersAlone();
        restOfAll();
        settled();
        settledByTheGreatestOfN();
        lengthAtTheLeast();
        lengthUpToBound();
        milnor();
        tjurina();
        partsOfSixtyTerms();
        cornersHowMany();
        cornersOfNone();
        cornerByOrder();
        cornerOfNone();
        stairsOfDegree();
        stairsOfNone();
        stairByOrder();
        stairOfNone();
        restComesIntoASlot();
        restOfNone();
        restOfSixtyTerms();
        lengthTells();
        lengthOfNone();
        lengthThatCantBe();
        numberTells();
        numberOfNone();
        numberThatCantBe();
        slotsThatChange();
        numbersBetween();
        manySets();
        Check.finish();
    }

    /** The POLYNOMIALS stand in the first SLOTS then; all of these as bits. */
    private static int ideal(Near x, int n, int p, String... texts) {
        x.ring(n, p);
        for (int k = 0; k < texts.length; k++) {
            Check.due("\"" + texts[k] + "\" is read", x.read(k, texts[k]) >= 0, true);
        }
        return (1 << texts.length) - 1;
    }

    private static String listed(Near x, boolean corner, int set, int n) {
        StringBuilder text = new StringBuilder();
        int many = corner ? x.corners(set, n) : x.stairs(set, n, -1);
        for (int i = 0; i < many; i++) {
            text.append(i > 0 ? " " : "");
            for (int what = 0; what < 4; what++) {
                text.append(what == 3 ? ":" : "").append(corner ? x.corner(set, n, i, what) : x.stair(set, n, i, what));
            }
        }
        return text.toString();
    }

    private static void are(Near x, int set, int n, String corners, String stair) {
        Check.due("corners at " + n, listed(x, true, set, n), corners);
        Check.due("stair at " + n, listed(x, false, set, n), stair);
    }

    private static void lengthIs(Near x, int set, int n, int many) {
        Check.due("N of " + set, x.length(set, 0), n);
        Check.due("LENGTH of " + set, x.length(set, 1), many);
    }

    private static void restIs(Near x, int slot, int set, int n, String want) {
        int many = x.rest(slot, set, n, 7);
        Check.due("rest(" + slot + ", " + set + ", " + n + ")", x.shown(7), want);
        Check.due("how many", many, x.term(7, -1, 0));
    }

    // ---- item 1's SETS

    private static void setsAsBits() {
        Near x = Check.says("Item 1", "A SET of SLOTS is told as bits (0 .. 255);");
        x.ring(1, 101);
        for (int slot = 0; slot < 8; slot++) {
            x.read(slot, "x^" + (slot + 2));
        }
        for (int slot = 0; slot < 8; slot++) {
            Check.due("SLOT " + slot, x.length(1 << slot, 1), slot + 2);
            Check.due("from SLOT " + slot + " on", x.length(256 - (1 << slot), 1), slot + 2);
        }
        Check.due("none", x.length(0, 1), -1);
        Check.due("all", x.length(255, 1), 2);
        Check.due("256", x.length(256, 1), -1);
        Check.due("-1", x.length(-1, 1), -1);
    }

    private static void slotsOfZero() {
        Near x = Check.says("Item 1", "those that hold 0 don't matter.");
        ideal(x, 2, 101, "x^2", "0", "y^2");
        for (int set : new int[] {5, 7, 255, 253}) {
            are(x, set, 4, "200:2 020:2", "000:0 100:1 010:1 110:2");
            lengthIs(x, set, 4, 4);
            Check.due("rest", x.rest(0, set, 3, 6), 0);
            Check.due("weak", x.weak(0, set), 1);
            Check.due("T", x.step(-1, 1), 2);
        }
        are(x, 2, 2, "", "000:0 100:1 010:1");
        Check.due("weak by 0", x.weak(0, 2), 0);
    }

    // ---- item 3

    private static void boundOfN() {
        Near x = Check.says("Item 3", "BOUND of N: 24, 12, 8 (n 1, 2, 3).");
        int[] bounds = {24, 12, 8};
        for (int n = 1; n <= 3; n++) {
            x.ring(n, 101);
            x.read(0, "x");
            int bound = bounds[n - 1];
            Check.due("look(5)", x.look(5), bound);
            Check.due("at BOUND", x.corners(1, bound), 1);
            Check.due("above BOUND", x.corners(1, bound + 1), -1);
            x.weights(4, 3, 2);
            Check.due("at BOUND by other WEIGHTS", x.corners(1, bound), 1);
            Check.due("above BOUND by other WEIGHTS", x.corners(1, bound + 1), -1);
        }
    }

    private static void everyN() {
        Near x = Check.says("Item 3", "For a SET and N (1 .. BOUND):");
        int set = ideal(x, 2, 101, "x+x^2", "y^4+xy^2");
        int[] corners = {0, 0, 1, 1, 1, 2, 2, 2, 2, 2, 2, 2, 2};
        int[] stairs = {0, 1, 2, 3, 4, 4, 4, 4, 4, 4, 4, 4, 4};
        for (int n = 1; n <= 12; n++) {
            Check.due("corners at " + n, x.corners(set, n), corners[n]);
            Check.due("stairs at " + n, x.stairs(set, n, -1), stairs[n]);
            Check.due("REST at " + n, x.rest(1, 1, n, 7), n > 4 ? 1 : 0);
        }
        Check.due("at 0", x.corners(set, 0), -1);
        Check.due("at 13", x.corners(set, 13), -1);
    }

    private static void allSums() {
        Near x = Check.says("Item 3", "I are all sums of its POLYNOMIALS times POLYNOMIALS,");
        are(x, ideal(x, 2, 101, "x^2+y^3", "xy"), 7, "200:2 110:2 040:4", "000:0 100:1 010:1 020:2 030:3");
        are(x, ideal(x, 2, 101, "x+y", "x+y+y^3"), 9, "100:1 030:3", "000:0 010:1 020:2");
        are(x, ideal(x, 3, 2, "x+y", "x+z", "y+z+y^4"), 8, "100:1 010:1 004:4", "000:0 001:1 002:2 003:3");
        // Near the origin 1 - x has an inverse: x - x^2 makes x.
        are(x, ideal(x, 2, 101, "x-x^2", "y^2+xy^2"), 6, "100:1 020:2", "000:0 010:1");
        are(x, ideal(x, 2, 101, "1+x+y", "x^5"), 3, "000:0", "");
        are(x, ideal(x, 2, 101), 2, "", "000:0 100:1 010:1");
    }

    private static void allOfDegreeN() {
        Near x = Check.says("Item 3", "and all MONOMIALS of DEGREE N or more with what they make.");
        ideal(x, 2, 101, "x^2+y^3", "y^3+y^4", "x^2+x^5");
        restIs(x, 0, 0, 3, "x^2");
        restIs(x, 0, 0, 4, "x^2+y^3");
        restIs(x, 0, 2, 4, "x^2");
        restIs(x, 1, 0, 3, "0");
        restIs(x, 1, 0, 4, "y^3");
        // x^2 + x^5, x^2 + y^3: with y^3 there is x^5 alone only from 4 on.
        are(x, 5, 3, "200:2", "000:0 100:1 010:1 110:2 020:2");
        are(x, 5, 4, "200:2 030:3", "000:0 100:1 010:1 110:2 020:2 120:3");
        x.weights(1, 2, 1);
        restIs(x, 0, 0, 6, "x^2");
        restIs(x, 0, 0, 7, "x^2+y^3");
        x.read(3, "x^30y^30");
        restIs(x, 3, 0, 12, "0");
    }

    private static void leads() {
        Near x = Check.says("Item 3", "LEADS: of all MONOMIALS of DEGREE below N those that are LEAD of one of I.");
        int set = ideal(x, 2, 101, "x^2+y^3");
        for (int n = 3; n <= 12; n++) {
            Check.due("LEADS at " + n, x.all(n, 0) - x.stairs(set, n, -1), x.all(n - 2, 0));
        }
        Check.due("none at 2", x.all(2, 0) - x.stairs(set, 2, -1), 0);
        x.weights(3, 1, 1);
        are(x, set, 4, "030:3", "000:0 010:1 020:2 100:3");
        x.weights(3, 2, 1);
        are(x, set, 7, "200:6", "000:0 010:2 100:3 020:4 110:5 030:6");
        are(x, ideal(x, 2, 101, "y-x^2"), 4, "010:1", "000:0 100:1 200:2 300:3");
        are(x, ideal(x, 1, 101, "x^30"), 24, "", listed(x, false, 0, 24));
    }

    private static void stairIsAllOthers() {
        Near x = Check.says("Item 3", "STAIR: all others of DEGREE below N.");
        int set = ideal(x, 2, 101, "x^2", "y^3");
        are(x, set, 1, "", "000:0");
        are(x, set, 2, "", "000:0 100:1 010:1");
        are(x, set, 3, "200:2", "000:0 100:1 010:1 110:2 020:2");
        are(x, set, 4, "200:2 030:3", "000:0 100:1 010:1 110:2 020:2 120:3");
        are(x, set, 12, "200:2 030:3", "000:0 100:1 010:1 110:2 020:2 120:3");
        Check.due("of none at BOUND", x.stairs(0, 12, -1), 78);
        set = ideal(x, 2, 101, "2+x");
        for (int n = 1; n <= 12; n++) {
            Check.due("of a unit at " + n, x.stairs(set, n, -1), 0);
        }
    }

    private static void cornersAlone() {
        Near x = Check.says("Item 3", "CORNERS: LEADS that are divided by no other one.");
        are(x, ideal(x, 3, 101, "z^2", "xy", "x^2z", "y^3", "x^4"), 8, "110:2 002:2 201:3 030:3 400:4",
            "000:0 100:1 010:1 001:1 200:2 101:2 020:2 011:2 300:3 021:3");
        x.read(5, "x^2y+x^5");
        x.read(6, "y^3z");
        Check.due("others that are divided", x.corners(127, 8), 5);
        are(x, ideal(x, 3, 101, "1+x^2", "x"), 2, "000:0", "");
        are(x, ideal(x, 1, 7, "x^3+x^5", "x^4"), 24, "300:3", "000:0 100:1 200:2");
    }

    private static void restOfAll() {
        Near x = Check.says("Item 3",
            "REST of a POLYNOMIAL: the sum of MONOMIALS of the STAIR times numbers that differs from it by one of I (there is one alone).");
        ideal(x, 2, 101, "x^2", "y^3", "7+x^2+2xy^2+y^3+5x^4y", "x-y^2", "x^2y", "1+x");
        restIs(x, 2, 3, 6, "7+2xy^2");
        restIs(x, 2, 0, 12, "7+x^2+2xy^2+y^3+5x^4y");
        restIs(x, 4, 8, 6, "y^5");
        restIs(x, 4, 8, 5, "0");
        restIs(x, 2, 32, 12, "0");
        restIs(x, 5, 1, 12, "1+x");
        restIs(x, 6, 3, 5, "0");
        // Of the same SET told by others the REST is the same.
        ideal(x, 2, 101, "x^2+y^3", "xy", "x^2+xy+x^2y+y^4", "3xy", "x^2+y^3+5xy+x^2y");
        restIs(x, 2, 3, 7, "100y^3");
        restIs(x, 2, 8 + 16, 7, "100y^3");
        // By 1 - x + x^2 - .. near the origin: x^2 + x^3 makes x^2.
        ideal(x, 1, 101, "x^2+x^3", "x+x^2");
        restIs(x, 1, 1, 24, "x");
        ideal(x, 2, 7, "2x+3y", "x");
        restIs(x, 1, 1, 4, "2y");
    }

    private static void settled() {
        Near x = Check.says("Item 3", "SETTLED is a SET at N, if no MONOMIAL of its STAIR has a DEGREE of N less W or more,");
        // Its STAIR has DEGREES 0 .. 3.
        lengthIs(x, ideal(x, 2, 101, "x^2", "y^3"), 5, 6);
        x.weights(3, 2, 1);
        // 0, 2, 3, 4, 5, 7, and 7 is less than N less 3.
        lengthIs(x, 3, 11, 6);
        // 0, 2, 2, 4: N less 2 is above 4.
        ideal(x, 2, 101, "x^2", "y^2");
        x.weights(2, 2, 1);
        lengthIs(x, 3, 7, 4);
        // 0, 3, 2, 5: N less 3 is above 5.
        x.weights(3, 2, 1);
        lengthIs(x, 3, 9, 4);
        // 0, 1, 4, 5: N less 4 is above 5, though nothing is of DEGREE 2 and 3.
        x.weights(1, 4, 4);
        lengthIs(x, 3, 10, 4);
        // An empty STAIR is SETTLED at once, whatever W is.
        ideal(x, 3, 101, "1+x+y^2");
        x.weights(4, 4, 4);
        lengthIs(x, 1, 1, 0);
        // STAIR 1 alone: DEGREE 0 is below N less 4 from 5 on.
        ideal(x, 3, 101, "x", "y", "z");
        x.weights(4, 4, 4);
        lengthIs(x, 7, 5, 1);
    }

    private static void settledByTheGreatestOfN() {
        Near x = Check.says("Item 3", "W being the greatest WEIGHT (of the n).");
        ideal(x, 1, 101, "x^3");
        x.weights(1, 4, 4);
        lengthIs(x, 1, 4, 3);
        x.weights(2, 4, 4);
        lengthIs(x, 1, 7, 3);
        ideal(x, 2, 101, "x", "y");
        x.weights(1, 1, 4);
        lengthIs(x, 3, 2, 1);
        x.weights(1, 3, 4);
        lengthIs(x, 3, 4, 1);
        x.weights(3, 1, 4);
        lengthIs(x, 3, 4, 1);
        ideal(x, 3, 101, "x", "y", "z^3");
        x.weights(1, 1, 2);
        lengthIs(x, 7, 7, 3);
        x.weights(4, 1, 1);
        lengthIs(x, 7, 7, 3);
    }

    private static void lengthAtTheLeast() {
        Near x = Check.says("Item 3", "LENGTH: how many MONOMIALS its STAIR has at the least N at which it is SETTLED;");
        lengthIs(x, ideal(x, 2, 101, "x", "y"), 2, 1);
        lengthIs(x, ideal(x, 2, 101, "x^2+y^3", "xy"), 5, 5);
        lengthIs(x, ideal(x, 3, 101, "x^2", "y^2", "z^2"), 5, 8);
        lengthIs(x, ideal(x, 1, 101, "x^5+x^6"), 6, 5);
        lengthIs(x, ideal(x, 2, 101, "1+x"), 1, 0);
        lengthIs(x, ideal(x, 2, 101, "x-y^2", "x^2+y^3"), 4, 3);
    }

    private static void lengthUpToBound() {
        Near x = Check.says("Item 3", "none up to BOUND: it has none.");
        lengthIs(x, ideal(x, 1, 101, "x^23"), 24, 23);
        lengthIs(x, ideal(x, 1, 101, "x^24"), -1, -1);
        lengthIs(x, ideal(x, 2, 101, "x", "y^11"), 12, 11);
        lengthIs(x, ideal(x, 2, 101, "x", "y^12"), -1, -1);
        lengthIs(x, ideal(x, 3, 101, "x", "y", "z^7"), 8, 7);
        lengthIs(x, ideal(x, 3, 101, "x", "y", "z^8"), -1, -1);
        lengthIs(x, ideal(x, 2, 101, "x^2", "xy"), -1, -1);
        lengthIs(x, ideal(x, 2, 101), -1, -1);
        // 0, 4, 4, 8: BOUND less 4 is 8.
        ideal(x, 2, 101, "x^2", "y^2");
        x.weights(4, 4, 1);
        lengthIs(x, 3, -1, -1);
        // 0, 4, 3, 7: BOUND less 4 is above.
        x.weights(4, 3, 1);
        lengthIs(x, 3, 12, 4);
    }

    private static void numbersAre(Near x, int n, String f, int milnor, int tjurina) {
        x.ring(n, 32003);
        Check.due("\"" + f + "\" is read", x.read(3, f) >= 0, true);
        Check.due("Milnor's of " + f, x.number(3, 0), milnor);
        Check.due("Tjurina's of " + f, x.number(3, 1), tjurina);
    }

    private static void milnor() {
        Near x = Check.says("Item 3", "MILNOR of f: LENGTH of all its PARTS (derivatives by each VARIABLE);");
        String[] simple = {"x^2+y^2", "x^2+y^7", "x^3+xy^2", "x^3+y^4", "x^3+xy^3", "x^3+y^5", "x^4+y^4", "x^4+y^5"};
        int[] want = {1, 6, 4, 6, 7, 8, 9, 12};
        for (int i = 0; i < simple.length; i++) {
            numbersAre(x, 2, simple[i], want[i], want[i]);
        }
        numbersAre(x, 3, "x^2+y^2+z^2", 1, 1);
        numbersAre(x, 3, "x^2+y^3+z^5", 8, 8);
        numbersAre(x, 3, "x^3+y^3+z^3", 8, 8);
        numbersAre(x, 3, "x^2+y^2", -1, -1);
        numbersAre(x, 2, "x^2", -1, -1);
        numbersAre(x, 2, "xy+x^2y", 1, 1);
        numbersAre(x, 2, "x+y^2", 0, 0);
        numbersAre(x, 1, "x^2+x^3", 1, 1);
        numbersAre(x, 1, "x^24", 23, 23);
        numbersAre(x, 1, "x^25", -1, -1);
        x.ring(2, 3);
        x.read(0, "x^2+y^3");
        Check.due("y^3 modulo 3", x.number(0, 0), -1);
        x.ring(1, 5);
        x.read(0, "x^5+x^7");
        Check.due("x^5 modulo 5", x.number(0, 0), 6);
    }

    private static void tjurina() {
        Near x = Check.says("Item 3", "TJURINA: of these and f.");
        numbersAre(x, 2, "x^4+y^5+x^2y^3", 12, 11);
        numbersAre(x, 2, "x^2y^2+x^5+y^5", 11, 10);
        numbersAre(x, 3, "xyz+x^4+y^4+z^4", 11, 10);
        numbersAre(x, 2, "1+x^2+y^3", 2, 0);
        numbersAre(x, 2, "1+x^2", -1, 0);
        numbersAre(x, 2, "5", -1, 0);
        x.ring(1, 5);
        x.read(0, "x^5");
        Check.due("no PART at all", x.number(0, 0), -1);
        Check.due("f alone", x.number(0, 1), 5);
        x.ring(2, 3);
        x.read(0, "x^2+y^3");
        Check.due("x and y^3", x.number(0, 1), 3);
        x.weights(2, 1, 1);
        Check.due("x and y^3 by WEIGHTS", x.number(0, 1), 3);
    }

    private static void partsOfSixtyTerms() {
        Near x = Check.says("Item 3", "(More than 60 TERMS can't come by that.)");
        x.ring(3, 101);
        x.fill(0, 59, 'x', 'y');
        x.read(1, "z^2");
        x.make(0, 0, 1, 0);
        Check.due("60", x.term(0, -1, 0), 60);
        Check.due("PARTS of 60", x.part(0, 0, 2), 59);
        Check.due("MILNOR of 60", x.number(0, 0), 0);
        Check.due("TJURINA of 60", x.number(0, 1), 0);
    }

    // ---- promises 17, 18

    private static void cornersHowMany() {
        Near x = Check.says("Promise 17", "CORNERS of a SET at N: how many.");
        int set = ideal(x, 2, 101, "x^3", "xy", "y^4");
        int[] want = {0, 0, 0, 1, 2, 3, 3, 3, 3, 3, 3, 3, 3};
        for (int n = 1; n <= 12; n++) {
            Check.due("corners(" + set + ", " + n + ")", x.corners(set, n), want[n]);
        }
        Check.due("of none", x.corners(0, 12), 0);
        x.read(3, "1");
        Check.due("of a unit", x.corners(8, 1), 1);
        Check.due("of a unit and others", x.corners(15, 12), 1);
    }

    private static void cornersOfNone() {
        Near x = Check.says("Promise 17", "NONE if one can't be.");
        int[] bounds = {24, 12, 8};
        for (int n = 1; n <= 3; n++) {
            x.ring(n, 7);
            x.read(0, "x");
            for (int set : NO_SETS) {
                Check.due("corners(" + set + ", 3)", x.corners(set, 3), -1);
            }
            for (int none : new int[] {LEAST, -1, 0, bounds[n - 1] + 1, 25, MOST}) {
                Check.due("corners(1, " + none + ")", x.corners(1, none), -1);
                Check.due("corners(256, " + none + ")", x.corners(256, none), -1);
            }
        }
    }

    private static void cornerByOrder() {
        Near x = Check.says("Promise 18", "The i-th CORNER by ORDER what 0, 1, 2 EXPONENTS, 3 DEGREE.");
        int set = ideal(x, 3, 101, "x^4", "y^3", "x^2z", "xy", "z^2");
        Check.due("by 1, 1, 1", listed(x, true, set, 8), "110:2 002:2 201:3 030:3 400:4");
        x.weights(3, 1, 2);
        Check.due("by 3, 1, 2", listed(x, true, set, 8), "030:3 110:4 002:4");
        ideal(x, 1, 101, "x^2");
        Check.due("EXPONENT of y", x.corner(1, 24, 0, 1), 0);
        Check.due("EXPONENT of z", x.corner(1, 24, 0, 2), 0);
    }

    private static void cornerOfNone() {
        Near x = Check.says("Promise 18", "NONE if there is none such, or another what.");
        ideal(x, 2, 101, "x^2", "y^3");
        for (int what = 0; what < 4; what++) {
            for (int set : NO_SETS) {
                Check.due("corner(" + set + ", 3, 0, " + what + ")", x.corner(set, 3, 0, what), -1);
            }
            for (int n : new int[] {LEAST, -1, 0, 13, 24, MOST}) {
                Check.due("corner(3, " + n + ", 0, " + what + ")", x.corner(3, n, 0, what), -1);
            }
            for (int i : new int[] {LEAST, -2, -1, 2, 3, 78, 120, MOST}) {
                Check.due("corner(3, 5, " + i + ", " + what + ")", x.corner(3, 5, i, what), -1);
            }
            Check.due("y^3 at 3", x.corner(3, 3, 1, what), -1);
            Check.due("of none", x.corner(0, 3, 0, what), -1);
        }
        for (int what : new int[] {LEAST, -2, -1, 4, 5, MOST}) {
            Check.due("corner(3, 5, 0, " + what + ")", x.corner(3, 5, 0, what), -1);
        }
    }

    // ---- promises 19, 20

    private static void stairsOfDegree() {
        Near x = Check.says("Promise 19", "MONOMIALS of the STAIR of a SET at N of DEGREE d (d NONE: all): how many.");
        int set = ideal(x, 2, 101, "x^2", "y^3");
        int[] want = {1, 2, 2, 1, 0, 0};
        for (int d = 0; d < 6; d++) {
            Check.due("stairs(3, 6, " + d + ")", x.stairs(set, 6, d), want[d]);
        }
        Check.due("all", x.stairs(set, 6, -1), 6);
        Check.due("all at 3", x.stairs(set, 3, -1), 5);
        Check.due("of DEGREE 11 at 12", x.stairs(set, 12, 11), 0);
        Check.due("none: of DEGREE 11 at 12", x.stairs(0, 12, 11), 12);
        Check.due("none: of DEGREE 0 at 1", x.stairs(0, 1, 0), 1);
        x.weights(3, 2, 1);
        int[] byWeights = {1, 0, 1, 1, 1, 1, 0, 1, 0};
        for (int d = 0; d < 9; d++) {
            Check.due("by 3, 2: " + d, x.stairs(set, 9, d), byWeights[d]);
        }
        ideal(x, 2, 101, "7");
        Check.due("of a unit", x.stairs(1, 12, -1), 0);
        Check.due("of a unit", x.stairs(1, 12, 0), 0);
    }

    private static void stairsOfNone() {
        Near x = Check.says("Promise 19", "NONE if one can't be (d below N).");
        ideal(x, 2, 101, "x^2", "y^3");
        for (int n = 1; n <= 12; n++) {
            Check.due("d is N less 1", x.stairs(3, n, n - 1) >= 0, true);
            Check.due("d is N", x.stairs(3, n, n), -1);
            Check.due("d is N and 1", x.stairs(3, n, n + 1), -1);
        }
        for (int d : new int[] {LEAST, -3, -2, 5, 6, 12, 13, MOST}) {
            Check.due("stairs(3, 5, " + d + ")", x.stairs(3, 5, d), -1);
        }
        for (int d : new int[] {-1, 0, 2}) {
            for (int set : NO_SETS) {
                Check.due("stairs(" + set + ", 3, " + d + ")", x.stairs(set, 3, d), -1);
            }
            for (int n : new int[] {LEAST, -1, 0, 13, 24, MOST}) {
                Check.due("stairs(3, " + n + ", " + d + ")", x.stairs(3, n, d), -1);
            }
        }
    }

    private static void stairByOrder() {
        Near x = Check.says("Promise 20", "The i-th MONOMIAL of the STAIR by ORDER, as corner() tells.");
        int set = ideal(x, 3, 101, "x^2", "y^2", "z^2");
        Check.due("by 1, 1, 1", listed(x, false, set, 8), "000:0 100:1 010:1 001:1 110:2 101:2 011:2 111:3");
        x.weights(3, 1, 2);
        Check.due("by 3, 1, 2", listed(x, false, set, 7), "000:0 010:1 001:2 100:3 011:3 110:4 101:5 111:6");
        Check.due("by 3, 1, 2 at 6", listed(x, false, set, 6), "000:0 010:1 001:2 100:3 011:3 110:4 101:5");
        x.ring(1, 101);
        Check.due("the last at BOUND", x.stair(0, 24, 23, 0), 23);
        Check.due("its DEGREE", x.stair(0, 24, 23, 3), 23);
        Check.due("its EXPONENT of z", x.stair(0, 24, 23, 2), 0);
        x.ring(3, 101);
        Check.due("the last of 120", x.stair(0, 8, 119, 2), 7);
        Check.due("behind it", x.stair(0, 8, 120, 2), -1);
    }

    private static void stairOfNone() {
        Near x = Check.says("Promise 20", "NONE likewise.");
        ideal(x, 2, 101, "x^2", "y^3");
        for (int what = 0; what < 4; what++) {
            for (int set : NO_SETS) {
                Check.due("stair(" + set + ", 3, 0, " + what + ")", x.stair(set, 3, 0, what), -1);
            }
            for (int n : new int[] {LEAST, -1, 0, 13, 24, MOST}) {
                Check.due("stair(3, " + n + ", 0, " + what + ")", x.stair(3, n, 0, what), -1);
            }
            for (int i : new int[] {LEAST, -2, -1, 6, 7, 78, 120, MOST}) {
                Check.due("stair(3, 5, " + i + ", " + what + ")", x.stair(3, 5, i, what), -1);
            }
            Check.due("xy^2 at 3", x.stair(3, 3, 5, what), -1);
        }
        for (int what : new int[] {LEAST, -2, -1, 4, 5, MOST}) {
            Check.due("stair(3, 5, 0, " + what + ")", x.stair(3, 5, 0, what), -1);
        }
        x.read(2, "1");
        Check.due("of a unit", x.stair(4, 5, 0, 0), -1);
    }

    // ---- promise 21

    private static void restComesIntoASlot() {
        Near x = Check.says("Promise 21", "REST of a SLOT by a SET at N comes into a SLOT: how many TERMS.");
        ideal(x, 2, 101, "x^2+y^3", "xy", "x^2+xy+x^2y+y^4+5");
        for (int into = 3; into < 8; into++) {
            Check.due("rest(2, 3, 7, " + into + ")", x.rest(2, 3, 7, into), 2);
            Check.due("slot " + into, x.shown(into), "5+100y^3");
        }
        Check.due("0", x.rest(1, 3, 7, 7), 0);
        Check.due("slot 7", x.shown(7), "0");
        Check.due("of 0", x.rest(7, 3, 7, 6), 0);
        Check.due("into itself", x.rest(2, 3, 7, 2), 2);
        Check.due("into itself", x.shown(2), "5+100y^3");
        Check.due("into one of the SET", x.rest(2, 3, 7, 0), 2);
        Check.due("into one of the SET", x.shown(0), "5+100y^3");
        Check.due("by that: a unit", x.rest(1, 1, 7, 4), 0);
    }

    private static void restOfNone() {
        Near x = Check.says("Promise 21", "NONE if one can't be,");
        ideal(x, 2, 101, "x^2", "y^3");
        x.read(7, "x+y");
        x.weak(7, 1);
        x.show(7);
        String before = x.state();
        for (int set : NO_SETS) {
            Check.due("rest(0, " + set + ", 3, 7)", x.rest(0, set, 3, 7), -1);
        }
        for (int n : new int[] {LEAST, -1, 0, 13, 24, MOST}) {
            Check.due("rest(0, 3, " + n + ", 7)", x.rest(0, 3, n, 7), -1);
        }
        for (int slot : NO_SLOTS) {
            Check.due("rest(" + slot + ", 3, 5, 7)", x.rest(slot, 3, 5, 7), -1);
            Check.due("rest(0, 3, 5, " + slot + ")", x.rest(0, 3, 5, slot), -1);
        }
        Check.due("all", x.state(), before);
    }

    /** A SLOT is the start with all x^i y^j z^k, k 0 or 1, of the DEGREES told. */
    private static void addTerms(Near x, int slot, String start, int from, int to) {
        x.read(slot, start);
        for (int i = 0; i <= to; i++) {
            StringBuilder text = new StringBuilder("0");
            for (int j = 0; i + j <= to; j++) {
                for (int k = 0; k < 2; k++) {
                    if (i + j + k >= from && i + j + k <= to) {
                        text.append("+x^").append(i).append("y^").append(j).append("z^").append(k);
                    }
                }
            }
            x.read(6, text.toString());
            x.make(0, slot, 6, slot);
        }
    }

    private static void restOfSixtyTerms() {
        Near x = Check.says("Promise 21", "or it had more than 60 TERMS (nothing comes).");
        x.ring(3, 101);
        addTerms(x, 0, "z^2", 3, 7);
        Check.due("TERMS of the divisor", x.term(0, -1, 0), 56);
        // Without z^2 55; with x, y, z, 1 and x^2 60, with y^2 61.
        x.read(1, "z^2+1+x+y+z+x^2");
        Check.due("REST of 60", x.rest(1, 1, 8, 5), 60);
        Check.due("REST of 60", x.term(5, -1, 0), 60);
        x.read(1, "z^2+1+x+y+z+x^2+y^2");
        Check.due("REST of 61", x.rest(1, 1, 8, 5), -1);
        Check.due("nothing came", x.term(5, -1, 0), 60);
        Check.due("REST of 61 into itself", x.rest(1, 1, 8, 1), -1);
        Check.due("nothing came", x.shown(1), "1+x+y+z+x^2+y^2+z^2");
        Check.due("REST of 61 into its SET", x.rest(1, 1, 8, 0), -1);
        Check.due("nothing came", x.term(0, -1, 0), 56);
        Check.due("REST of less at 7", x.rest(1, 1, 7, 7), 46);
    }

    // ---- promises 22, 23

    private static void lengthTells() {
        Near x = Check.says("Promise 22", "The least N at which a SET is SETTLED (what 0), its LENGTH (1).");
        ideal(x, 2, 101, "x^2", "y^3", "1+x");
        Check.due("N", x.length(3, 0), 5);
        Check.due("LENGTH", x.length(3, 1), 6);
        Check.due("N of a unit", x.length(7, 0), 1);
        Check.due("LENGTH of a unit", x.length(7, 1), 0);
        lengthIs(x, ideal(x, 1, 7, "x"), 2, 1);
        x.weights(4, 1, 1);
        lengthIs(x, 1, 5, 1);
    }

    private static void lengthOfNone() {
        Near x = Check.says("Promise 22", "NONE if it has none,");
        ideal(x, 2, 101, "x^2", "y^3", "xy");
        lengthIs(x, 0, -1, -1);
        lengthIs(x, 1, -1, -1);
        lengthIs(x, 2, -1, -1);
        lengthIs(x, 5, -1, -1);
        lengthIs(x, 128, -1, -1);
        lengthIs(x, 6 + 1, 4, 4);
    }

    private static void lengthThatCantBe() {
        Near x = Check.says("Promise 22", "or one can't be.");
        ideal(x, 2, 101, "x^2", "y^3");
        for (int set : NO_SETS) {
            Check.due("length(" + set + ", 0)", x.length(set, 0), -1);
            Check.due("length(" + set + ", 1)", x.length(set, 1), -1);
        }
        for (int what : new int[] {LEAST, -2, -1, 2, 3, MOST}) {
            Check.due("length(3, " + what + ")", x.length(3, what), -1);
        }
    }

    private static void numberTells() {
        Near x = Check.says("Promise 23", "MILNOR (what 0), TJURINA (1) of a SLOT.");
        x.ring(2, 32003);
        for (int slot = 0; slot < 8; slot++) {
            x.read(slot, "x^2+y^" + (slot + 2));
        }
        x.read(3, "x^4+y^5+x^2y^3");
        for (int slot = 0; slot < 8; slot++) {
            Check.due("MILNOR of SLOT " + slot, x.number(slot, 0), slot == 3 ? 12 : slot + 1);
            Check.due("TJURINA of SLOT " + slot, x.number(slot, 1), slot == 3 ? 11 : slot + 1);
        }
        x.read(0, "1+xy");
        Check.due("MILNOR of a unit", x.number(0, 0), 1);
        Check.due("TJURINA of a unit", x.number(0, 1), 0);
    }

    private static void numberOfNone() {
        Near x = Check.says("Promise 23", "NONE if there is none,");
        x.ring(2, 32003);
        Check.due("MILNOR of 0", x.number(0, 0), -1);
        Check.due("TJURINA of 0", x.number(0, 1), -1);
        x.read(0, "x^2");
        Check.due("MILNOR of x^2", x.number(0, 0), -1);
        Check.due("TJURINA of x^2", x.number(0, 1), -1);
        x.read(0, "7");
        Check.due("MILNOR of 7", x.number(0, 0), -1);
        Check.due("TJURINA of 7", x.number(0, 1), 0);
        x.read(0, "x^13+y^2");
        Check.due("MILNOR 12 is beyond BOUND", x.number(0, 0), -1);
        x.read(0, "x^12+y^2");
        Check.due("MILNOR 11 is not", x.number(0, 0), 11);
        x.weights(1, 2, 1);
        Check.due("by 1, 2 it is", x.number(0, 0), -1);
    }

    private static void numberThatCantBe() {
        Near x = Check.says("Promise 23", "or none such.");
        x.read(0, "x^2+y^2");
        x.read(7, "x^2+y^2");
        for (int slot : NO_SLOTS) {
            Check.due("number(" + slot + ", 0)", x.number(slot, 0), -1);
            Check.due("number(" + slot + ", 1)", x.number(slot, 1), -1);
        }
        for (int what : new int[] {LEAST, -2, -1, 2, 3, MOST}) {
            Check.due("number(0, " + what + ")", x.number(0, what), -1);
        }
    }

    // ---- what was told once is not told again of other SLOTS

    private static void slotsThatChange() {
        Near x = Check.says("Promise 22", "The least N at which a SET is SETTLED (what 0), its LENGTH (1).");
        int set = ideal(x, 2, 101, "x^2", "y^2");
        Check.due("x^2, y^2", x.length(set, 1), 4);
        x.read(1, "y^3");
        Check.due("poly", x.length(set, 1), 6);
        x.make(2, 0, 0, 0);
        Check.due("make", x.length(set, 1), 12);
        x.part(0, 0, 0);
        Check.due("part", x.length(set, 1), 9);
        x.rest(0, 1, 12, 0);
        Check.due("rest: one is 0", x.length(set, 1), -1);
        x.read(0, "x^2");
        x.weak(0, 0);
        Check.due("again", x.length(set, 1), 6);
        x.kept(0, 1);
        Check.due("kept", x.length(set, 1), -1);
        Check.due("stair", x.stairs(set, 4, -1), 7);
        x.read(1, "y");
        Check.due("corner", x.corner(set, 4, 0, 1), 1);
        x.number(0, 1);
        Check.due("number takes nothing away", x.length(set, 1), 2);
        Check.due("number leaves slots", x.shown(0), "x^2");
        x.weights(1, 4, 1);
        Check.due("weights", x.length(set, 0), 6);
        x.ring(1, 101);
        Check.due("ring", x.length(set, 0), -1);
        x.read(0, "x^2");
        Check.due("ring", x.length(set, 0), 3);
    }

    private static void numbersBetween() {
        Near x = Check.says("Promise 23", "of a SLOT.");
        ideal(x, 2, 101, "x^2", "y^3", "x^2+xy^2+y^5", "x", "y^2", "xy");
        for (int turn = 0; turn < 6; turn++) {
            for (int slot = 0; slot < 6; slot++) {
                Check.due("of none", x.stairs(0, 3, -1), 6);
                Check.due("of SLOT " + slot, x.number(slot, 0), new int[] {-1, -1, 3, 0, -1, 1}[slot]);
                Check.due("LENGTH of SLOTS 0, 1", x.length(3, 1), 6);
                Check.due("LENGTH of SLOTS 3, 4", x.length(24, 1), 2);
            }
        }
    }

    private static void manySets() {
        Near x = Check.says("Promise 19", "MONOMIALS of the STAIR of a SET at N");
        x.ring(1, 101);
        for (int slot = 0; slot < 8; slot++) {
            x.read(slot, "x^" + (slot + 1));
        }
        for (int turn = 0; turn < 3; turn++) {
            for (int slot = 0; slot < 8; slot++) {
                Check.due("SLOT " + slot, x.stairs(1 << slot, 24, -1), slot + 1);
            }
            x.read(7, "x^8+x^9");
        }
        x.read(5, "x^20");
        for (int slot = 0; slot < 8; slot++) {
            Check.due("SLOT " + slot, x.stairs(1 << slot, 24, -1), slot == 5 ? 20 : slot + 1);
        }
    }
}
