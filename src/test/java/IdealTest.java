/** Promises 17 (corners), 18 (corner), 19 (stairs), 20 (stair), 21 (rest), 22 (length), 23 (number), and item 3. */
public final class IdealTest {
    private static final int[] NO_SLOTS = {-1, 8, Integer.MIN_VALUE, Integer.MAX_VALUE};
    private static final int[] NO_SETS = {-1, 256, Integer.MIN_VALUE, Integer.MAX_VALUE};
    private static StairsNear x = new StairsNear();

    public static void main(String[] args) {
        cornersAndStairs();
        nearTheOrigin();
        hiddenLeads();
        units();
        noPolynomials();
        orderOfCorners();
        byWeights();
        changedSlots();
        wrongOnes();
        rests();
        restTooLarge();
        lengths();
        lengthsAtBound();
        numbers();
        numbersOfPrimes();
        Check.finish();
    }

    /** The POLYNOMIALS stand in the first SLOTS then; all of these as bits. */
    private static int ideal(int n, int p, String... texts) {
        x.ring(n, p);
        for (int k = 0; k < texts.length; k++) {
            Check.due("\"" + texts[k] + "\" is read", Check.read(x, k, texts[k]) >= 0, true);
        }
        return (1 << texts.length) - 1;
    }

    private static String listed(boolean corner, int set, int n) {
        StringBuilder text = new StringBuilder();
        for (int i = 0; (corner ? x.corner(set, n, i, 3) : x.stair(set, n, i, 3)) >= 0; i++) {
            text.append(i > 0 ? " " : "");
            for (int what = 0; what < 4; what++) {
                text.append(what == 3 ? ":" : "").append(corner ? x.corner(set, n, i, what) : x.stair(set, n, i, what));
            }
        }
        return text.toString();
    }

    private static void are(int set, int n, String corners, String stair) {
        Check.due("corners at " + n, listed(true, set, n), corners);
        Check.due("stair at " + n, listed(false, set, n), stair);
        Check.due("how many corners at " + n, x.corners(set, n), corners.isEmpty() ? 0 : corners.split(" ").length);
        Check.due("how many of the stair at " + n, x.stairs(set, n, -1), stair.isEmpty() ? 0 : stair.split(" ").length);
    }

    private static void cornersAndStairs() {
        int set = ideal(2, 101, "x^2", "y^3");
        are(set, 1, "", "000:0");
        are(set, 2, "", "000:0 100:1 010:1");
        are(set, 3, "200:2", "000:0 100:1 010:1 110:2 020:2");
        are(set, 4, "200:2 030:3", "000:0 100:1 010:1 110:2 020:2 120:3");
        are(set, 12, "200:2 030:3", "000:0 100:1 010:1 110:2 020:2 120:3");
        int[] ofDegree = {1, 2, 2, 1, 0, 0};
        for (int d = 0; d < 6; d++) {
            Check.due("stairs(3, 6, " + d + ")", x.stairs(set, 6, d), ofDegree[d]);
        }
        Check.due("degree 6 at 6", x.stairs(set, 6, 6), -1);
        Check.due("degree 5 at 12", x.stairs(set, 12, 5), 0);
    }

    private static void nearTheOrigin() {
        are(ideal(2, 101, "x+x^2", "y^2+xy^2"), 6, "100:1 020:2", "000:0 010:1");
        are(ideal(1, 7, "x^3+x^5"), 24, "300:3", "000:0 100:1 200:2");
        are(ideal(2, 101, "y-x^2"), 4, "010:1", "000:0 100:1 200:2 300:3");
        are(ideal(3, 101, "x+y+z", "y+z^2", "z^3"), 8, "100:1 010:1 003:3", "000:0 001:1 002:2");
    }

    /** LEADS that no LEAD of the SET divides. */
    private static void hiddenLeads() {
        are(ideal(2, 101, "x^2+y^3", "xy"), 7, "200:2 110:2 040:4", "000:0 100:1 010:1 020:2 030:3");
        are(ideal(2, 101, "x^2+y^3", "xy"), 4, "200:2 110:2", "000:0 100:1 010:1 020:2 030:3");
        are(ideal(2, 101, "x+y", "x+y+y^3"), 9, "100:1 030:3", "000:0 010:1 020:2");
        are(ideal(3, 2, "x+y", "x+z", "y+z+y^4"), 8, "100:1 010:1 004:4", "000:0 001:1 002:2 003:3");
    }

    private static void units() {
        int set = ideal(2, 101, "1+x+y", "x^5");
        for (int n = 1; n <= 12; n++) {
            are(set, n, "000:0", "");
        }
        Check.due("N of a unit", x.length(set, 0), 1);
        Check.due("LENGTH of a unit", x.length(set, 1), 0);
        Check.read(x, 2, "3");
        Check.due("a number", x.length(4, 1), 0);
        x.weights(4, 4, 4);
        are(set, 5, "000:0", "");
        Check.due("N of a unit", x.length(set, 0), 1);
    }

    private static void noPolynomials() {
        ideal(2, 101, "x");
        are(0, 3, "", "000:0 100:1 010:1 200:2 110:2 020:2");
        are(254, 3, "", "000:0 100:1 010:1 200:2 110:2 020:2");
        Check.due("LENGTH", x.length(0, 1), -1);
        Check.due("N", x.length(0, 0), -1);
        are(255, 3, "100:1", "000:0 010:1 020:2");
        are(1, 3, "100:1", "000:0 010:1 020:2");
    }

    private static void orderOfCorners() {
        are(ideal(3, 101, "z^2", "xy", "x^2z", "y^3", "x^4"), 8, "110:2 002:2 201:3 030:3 400:4",
            "000:0 100:1 010:1 001:1 200:2 101:2 020:2 011:2 300:3 021:3");
        x.weights(3, 1, 2);
        are(31, 8, "030:3 110:4 002:4", "000:0 010:1 020:2 001:2 100:3 011:3 021:4 101:5 200:6");
    }

    private static void byWeights() {
        int set = ideal(2, 101, "x^2+y^3");
        are(set, 4, "200:2", "000:0 100:1 010:1 110:2 020:2 120:3 030:3");
        x.weights(3, 1, 1);
        are(set, 4, "030:3", "000:0 010:1 020:2 100:3");
        x.weights(3, 2, 1);
        are(set, 7, "200:6", "000:0 010:2 100:3 020:4 110:5 030:6");
        Check.due("of DEGREE 6", x.stairs(set, 7, 6), 1);
        Check.due("of DEGREE 1", x.stairs(set, 7, 1), 0);
    }

    private static void changedSlots() {
        int set = ideal(2, 101, "x^2", "y^2");
        Check.due("x^2, y^2", x.length(set, 1), 4);
        Check.read(x, 1, "y^3");
        Check.due("poly", x.length(set, 1), 6);
        x.make(2, 0, 0, 0);
        Check.due("make", x.length(set, 1), 12);
        x.part(0, 0, 0);
        Check.due("part", x.length(set, 1), 9);
        x.rest(0, 1, 12, 0);
        Check.due("rest: one is 0", x.length(set, 1), -1);
        Check.read(x, 0, "x^2");
        x.weak(0, 0);
        Check.due("again", x.length(set, 1), 6);
        x.kept(0, 1);
        Check.due("kept", x.length(set, 1), -1);
        Check.due("stair", x.stairs(set, 4, -1), 7);
        Check.read(x, 1, "y");
        Check.due("corner", x.corner(set, 4, 0, 1), 1);
        x.number(0, 1);
        Check.due("number takes nothing away", x.length(set, 1), 2);
        Check.due("number leaves slots", Check.shown(x, 0), "x^2");
    }

    private static void wrongOnes() {
        ideal(2, 101, "x^2", "y^3");
        for (int set : NO_SETS) {
            Check.due("corners(" + set + ", 3)", x.corners(set, 3), -1);
            Check.due("corner(" + set + ", 3, 0, 0)", x.corner(set, 3, 0, 0), -1);
            Check.due("stairs(" + set + ", 3, -1)", x.stairs(set, 3, -1), -1);
            Check.due("stair(" + set + ", 3, 0, 0)", x.stair(set, 3, 0, 0), -1);
            Check.due("rest(0, " + set + ", 3, 7)", x.rest(0, set, 3, 7), -1);
            Check.due("length(" + set + ", 1)", x.length(set, 1), -1);
        }
        for (int n : new int[] {-1, 0, 13, 24, Integer.MIN_VALUE, Integer.MAX_VALUE}) {
            Check.due("corners(3, " + n + ")", x.corners(3, n), -1);
            Check.due("corner(3, " + n + ", 0, 0)", x.corner(3, n, 0, 0), -1);
            Check.due("stairs(3, " + n + ", -1)", x.stairs(3, n, -1), -1);
            Check.due("stair(3, " + n + ", 0, 0)", x.stair(3, n, 0, 0), -1);
            Check.due("rest(0, 3, " + n + ", 7)", x.rest(0, 3, n, 7), -1);
        }
        for (int i : new int[] {-1, 2, Integer.MIN_VALUE, Integer.MAX_VALUE}) {
            Check.due("corner(3, 5, " + i + ", 0)", x.corner(3, 5, i, 0), -1);
        }
        for (int i : new int[] {-1, 6, Integer.MIN_VALUE, Integer.MAX_VALUE}) {
            Check.due("stair(3, 5, " + i + ", 0)", x.stair(3, 5, i, 0), -1);
        }
        for (int what : new int[] {-1, 4, Integer.MIN_VALUE, Integer.MAX_VALUE}) {
            Check.due("corner(3, 5, 0, " + what + ")", x.corner(3, 5, 0, what), -1);
            Check.due("stair(3, 5, 0, " + what + ")", x.stair(3, 5, 0, what), -1);
            Check.due("length(3, " + what + ")", x.length(3, what), -1);
            Check.due("number(0, " + what + ")", x.number(0, what), -1);
        }
        for (int what : new int[] {2, 3}) {
            Check.due("length(3, " + what + ")", x.length(3, what), -1);
            Check.due("number(0, " + what + ")", x.number(0, what), -1);
        }
        for (int d : new int[] {-2, 5, 6, Integer.MIN_VALUE, Integer.MAX_VALUE}) {
            Check.due("stairs(3, 5, " + d + ")", x.stairs(3, 5, d), -1);
        }
        for (int slot : NO_SLOTS) {
            Check.due("rest(" + slot + ", 3, 5, 7)", x.rest(slot, 3, 5, 7), -1);
            Check.due("rest(0, 3, 5, " + slot + ")", x.rest(0, 3, 5, slot), -1);
            Check.due("number(" + slot + ", 0)", x.number(slot, 0), -1);
            Check.due("number(" + slot + ", 1)", x.number(slot, 1), -1);
        }
        Check.due("slots stay", x.look(6), 3);
    }

    private static void restIs(int slot, int set, int n, String want) {
        int many = x.rest(slot, set, n, 7);
        Check.due("rest(" + slot + ", " + set + ", " + n + ")", Check.shown(x, 7), want);
        Check.due("how many", many, x.term(7, -1, 0));
    }

    private static void rests() {
        ideal(2, 101, "x^2", "y^3", "7+x^2+2xy^2+y^3+5x^4y", "x-y^2", "x^2y", "1+x");
        restIs(2, 3, 6, "7+2xy^2");
        restIs(2, 3, 3, "7");
        restIs(2, 3, 1, "7");
        restIs(2, 0, 12, "7+x^2+2xy^2+y^3+5x^4y");
        restIs(2, 0, 4, "7+x^2+2xy^2+y^3");
        restIs(4, 8, 6, "y^5");
        restIs(4, 8, 5, "0");
        restIs(6, 3, 5, "0");
        restIs(2, 32, 12, "0");
        restIs(5, 1, 12, "1+x");
        // By 1 - x + x^2 - .. near the origin: x^2 + x^3 makes x^2.
        ideal(1, 101, "x^2+x^3", "x+x^2");
        restIs(1, 1, 24, "x");
        ideal(2, 101, "x^2+y^3", "xy", "x^2+xy+x^2y+y^4");
        restIs(2, 3, 7, "100y^3");
        Check.due("a slot of the SET", x.rest(2, 3, 7, 0), 1);
        Check.due("a slot of the SET", Check.shown(x, 0), "100y^3");
        ideal(2, 7, "2x+3y", "x");
        restIs(1, 1, 4, "2y");
    }

    private static void restTooLarge() {
        x.ring(3, 101);
        addTerms(0, "z^2", 3, 7);
        addTerms(1, "z^2+1+x+y+z", 2, 2);
        // Without z^2: 30 of z^0 and 25 of z^1, of DEGREE 3 .. 7; with what is in SLOT 1 63.
        Check.due("TERMS of the divisor", x.term(0, -1, 0), 56);
        Check.due("TERMS of the divided", x.term(1, -1, 0), 10);
        Check.due("REST of 64", x.rest(1, 1, 8, 1), -1);
        Check.due("nothing came", x.term(1, -1, 0), 10);
        Check.due("REST of less", x.rest(1, 1, 7, 7), 52 - 3);
        Check.read(x, 2, "1+x+y+z");
        x.make(1, 1, 2, 1);
        Check.due("REST of 60", x.rest(1, 1, 8, 1), 60);
    }

    /** A SLOT is the start with all x^i y^j z^k, k 0 or 1, of the DEGREES told. */
    private static void addTerms(int slot, String start, int from, int to) {
        Check.read(x, slot, start);
        for (int i = 0; i <= to; i++) {
            for (int j = 0; i + j <= to; j++) {
                for (int k = 0; k < 2; k++) {
                    if (i + j + k >= from && i + j + k <= to) {
                        Check.read(x, 6, "x^" + i + "y^" + j + "z^" + k);
                        x.make(0, slot, 6, slot);
                    }
                }
            }
        }
    }

    private static void lengthIs(int set, int n, int many) {
        Check.due("N of " + set, x.length(set, 0), n);
        Check.due("LENGTH of " + set, x.length(set, 1), many);
    }

    private static void lengths() {
        lengthIs(ideal(2, 101, "x^2", "y^3"), 5, 6);
        lengthIs(ideal(2, 101, "x", "y"), 2, 1);
        lengthIs(ideal(2, 101, "x^2+y^3", "xy"), 5, 5);
        lengthIs(ideal(2, 101, "x^2", "xy"), -1, -1);
        lengthIs(ideal(3, 101, "x^2", "y^2", "z^2"), 5, 8);
        lengthIs(ideal(3, 101, "x^2", "y^2", "xz"), -1, -1);
        lengthIs(ideal(1, 101, "x^5+x^6"), 6, 5);
        int set = ideal(2, 101, "x^2", "y^2");
        x.weights(3, 2, 4);
        lengthIs(set, 9, 4);
        x.weights(1, 4, 4);
        lengthIs(set, 10, 4);
        x.weights(4, 4, 4);
        lengthIs(set, -1, -1);
        set = ideal(3, 101, "x", "y", "z^3");
        x.weights(1, 1, 2);
        lengthIs(set, 7, 3);
        x.weights(4, 1, 1);
        lengthIs(set, 7, 3);
        // The greatest WEIGHT is that of the n, not of all three.
        set = ideal(1, 101, "x^3");
        x.weights(1, 4, 4);
        lengthIs(set, 4, 3);
    }

    private static void lengthsAtBound() {
        lengthIs(ideal(1, 101, "x^23"), 24, 23);
        lengthIs(ideal(1, 101, "x^24"), -1, -1);
        lengthIs(ideal(2, 101, "x", "y^11"), 12, 11);
        lengthIs(ideal(2, 101, "x", "y^12"), -1, -1);
        lengthIs(ideal(3, 101, "x", "y", "z^7"), 8, 7);
        lengthIs(ideal(3, 101, "x", "y", "z^8"), -1, -1);
    }

    private static void numbersAre(int n, String f, int milnor, int tjurina) {
        x.ring(n, 32003);
        Check.due("\"" + f + "\" is read", Check.read(x, 3, f) >= 0, true);
        Check.due("Milnor's of " + f, x.number(3, 0), milnor);
        Check.due("Tjurina's of " + f, x.number(3, 1), tjurina);
    }

    private static void numbers() {
        numbersAre(2, "x^2+y^2", 1, 1);
        numbersAre(2, "x^2+y^7", 6, 6);
        numbersAre(2, "x^3+xy^2", 4, 4);
        numbersAre(2, "x^3+y^4", 6, 6);
        numbersAre(2, "x^3+xy^3", 7, 7);
        numbersAre(2, "x^3+y^5", 8, 8);
        numbersAre(2, "x^4+y^4", 9, 9);
        numbersAre(2, "x^4+y^5", 12, 12);
        numbersAre(2, "x^4+y^5+x^2y^3", 12, 11);
        numbersAre(2, "x^2y^2+x^5+y^5", 11, 10);
        numbersAre(3, "xyz+x^4+y^4+z^4", 11, 10);
        numbersAre(3, "x^2+y^2+z^2", 1, 1);
        numbersAre(3, "x^2+y^3+z^5", 8, 8);
        numbersAre(3, "x^3+y^3+z^3", 8, 8);
        numbersAre(3, "x^2+y^2", -1, -1);
        numbersAre(2, "x^2", -1, -1);
        numbersAre(2, "xy+x^2y", 1, 1);
        numbersAre(2, "x+y^2", 0, 0);
        numbersAre(2, "1+x^2+y^3", 2, 0);
        numbersAre(2, "1+x^2", -1, 0);
        numbersAre(2, "0", -1, -1);
        numbersAre(2, "5", -1, 0);
        numbersAre(1, "x^24", 23, 23);
        numbersAre(1, "x^25", -1, -1);
        numbersAre(1, "x^2+x^3", 1, 1);
    }

    private static void numbersOfPrimes() {
        ideal(1, 5, "x^5+x^7", "x^5");
        Check.due("x^5 has no part by 5", x.number(0, 0), 6);
        Check.due("x^5 + x^7 itself", x.number(0, 1), 5);
        Check.due("no part at all", x.number(1, 0), -1);
        Check.due("itself alone", x.number(1, 1), 5);
        ideal(2, 3, "x^2+y^3");
        Check.due("y^3 by 3", x.number(0, 0), -1);
        Check.due("y^3 by 3 itself", x.number(0, 1), 3);
        x.weights(2, 1, 1);
        Check.due("by weights", x.number(0, 1), 3);
    }
}
