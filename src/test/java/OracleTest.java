import java.util.Random;

/**
 * Runs of random calls with told seeds; Near holds each answer against Reference. With arguments:
 * first seed, how many seeds.
 */
public final class OracleTest {
    private static final int CALLS = 512;
    private static final String[] FIXED = {
        "x^2+y^3", "x^3+y^3+x^2y^2", "x+x^2", "1+x+y", "x^4+y^5+x^2y^3", "xy", "x^2y+y^4", "y-x^2", "x^3-x^5y",
        "x^2+y^2+z^2", "x^3+y^4+z^5", "xyz+x^4+y^4+z^4", "x-x^2", "1-x", "x^30", "y^30x", "x^15y^15", "x-x^30",
        "x^13+y^20", "x+y^2", "x+x^2+x^3+x^4+x^5+x^6+x^7+x^8+x^9+y^11", "y^11+y^12+y^13+y^14+y^15+y^16",
        "1+x+x^2+x^3+x^4+x^5+x^6+x^7+x^8+x^9", "y+y^2+y^3+y^4+y^5+y^6", "x^24+x^25", "xy+xz+yz"
    };

    private final Random random;
    private final Near x = new Near();
    private int vars = 2;

    private OracleTest(long seed) {
        random = new Random(seed);
    }

    public static void main(String[] args) {
        long first = args.length > 0 ? Long.parseLong(args[0]) : 1;
        long many = args.length > 1 ? Long.parseLong(args[1]) : 150;
        for (long seed = first; seed < first + many; seed++) {
            OracleTest one = new OracleTest(seed);
            // The longest of call()s makes less than a hundred.
            while (one.x.callsMade() < CALLS - 100) {
                one.call();
                if (!Check.allRight()) {
                    System.out.println("seed " + seed + ", all calls:");
                    one.x.callsUntilNow().forEach(System.out::println);
                    Check.finish();
                }
            }
        }
        Check.finish();
    }

    private int pick(int... from) {
        return from[random.nextInt(from.length)];
    }

    private int any(int from, int to) {
        return from + random.nextInt(to - from + 1);
    }

    /** Mostly what can be, now and then what can't. */
    private int some(int from, int to) {
        if (random.nextInt(25) == 0) {
            return pick(-2, -1, to + 1, to + 2, Integer.MAX_VALUE, Integer.MIN_VALUE, 1 << 20);
        }
        return any(from, to);
    }

    private int someSet() {
        int kind = random.nextInt(6);
        return kind < 2 ? some(0, 255) : kind < 4 ? 6 : 1 << any(0, 7) | 1 << any(0, 7);
    }

    private void call() {
        int slot = some(0, 7);
        int into = some(0, 7);
        int set = someSet();
        int n = some(1, vars == 1 ? 24 : vars == 2 ? 12 : 8);
        switch (any(0, 27)) {
            case 0: ring(); break;
            case 1: weigh(); break;
            case 2: feedRaw(); break;
            case 3: x.end(any(-1, 25)); break;
            case 4: x.poly(slot); faults(); break;
            case 5: case 6: case 7: case 8: text(); break;
            case 9: show(slot); break;
            case 10: x.term(slot, some(-1, 5), some(0, 4)); break;
            case 11: x.shape(slot, some(0, 4)); break;
            case 12: case 13: x.make(some(0, 2), slot, some(0, 7), into); break;
            case 14: x.part(slot, some(0, 3), into); break;
            case 15: case 16: case 17: x.weak(slot, set); wholeWeak(); break;
            case 18: x.kept(some(0, 9), into); show(into); break;
            case 19: x.corners(set, n); break;
            case 20: x.corner(set, n, some(-1, 5), some(0, 3)); break;
            case 21: x.stairs(set, n, some(-1, n < 0 ? 3 : Math.min(n, 24))); break;
            case 22: x.stair(set, n, some(-1, 20), some(0, 3)); break;
            case 23: x.rest(slot, set, n, into); show(into); break;
            case 24: x.length(set, some(0, 1)); break;
            case 25: x.number(slot, some(0, 1)); break;
            case 26: x.all(n, some(0, 1)); break;
            default: x.look(any(-1, 11)); break;
        }
    }

    private void ring() {
        if (random.nextInt(4) != 0 && x.callsMade() > 3) {
            return;
        }
        int n = some(1, 3);
        int p = pick(2, 3, 5, 7, 101, 32003, 32749, 32003, 101, 1, 0, -7, 100, 32750, 32771, 32748);
        vars = x.ring(n, p) ? n : vars;
    }

    private void weigh() {
        int a = random.nextInt(20) == 0 ? 5 : any(1, 4);
        int b = random.nextInt(20) == 0 ? 0 : any(1, 4);
        int c = random.nextInt(20) == 0 ? -1 : any(1, 4);
        if (random.nextInt(3) == 0) {
            x.weights(1, 1, 1);
        } else {
            x.weights(a, b, c);
        }
    }

    private void feedRaw() {
        int[] w = new int[5];
        for (int k = 0; k < 5; k++) {
            w[k] = random.nextInt(3) == 0 ? random.nextInt() : Check.four(randomText(), 0);
        }
        x.feed(w[0], w[1], w[2], w[3], w[4]);
    }

    private void faults() {
        x.fault(0);
        x.fault(1);
        x.look(7);
    }

    private void text() {
        int kind = random.nextInt(4);
        String t = kind == 0 ? FIXED[random.nextInt(FIXED.length)] : kind == 1 ? deepText() : randomText();
        if (random.nextInt(6) == 0 && !t.isEmpty()) {
            int at = random.nextInt(t.length());
            char odd = (char) pick(' ', '^', '+', '-', 'x', 'z', 'w', '3', '0', '{', '/', ':', 200, 0);
            t = t.substring(0, at) + odd + t.substring(random.nextBoolean() ? at : at + 1);
        }
        int slot = some(0, random.nextBoolean() ? 2 : 7);
        x.read(slot, t.length() > 200 ? t.substring(0, 200) : t);
        faults();
        show(slot);
    }

    private String randomText() {
        StringBuilder t = new StringBuilder();
        int terms = random.nextInt(8) == 0 ? any(1, 40) : any(1, 4);
        int top = random.nextInt(6) == 0 ? 30 : any(1, 6);
        for (int k = 0; k < terms; k++) {
            if (k > 0 || random.nextInt(5) == 0) {
                t.append(k > 0 && random.nextBoolean() ? "+" : "-");
            }
            int factors = any(1, 3);
            for (int f = 0; f < factors; f++) {
                factor(t, top);
            }
            blank(t);
        }
        return t.toString();
    }

    private void factor(StringBuilder t, int top) {
        blank(t);
        if (random.nextInt(4) == 0) {
            t.append(random.nextInt(5) == 0 ? any(0, 120000) : any(0, 9));
            return;
        }
        t.append((char) ('x' + random.nextInt(random.nextInt(40) == 0 ? 3 : vars)));
        blank(t);
        if (random.nextBoolean()) {
            t.append('^');
            blank(t);
            t.append(random.nextInt(30) == 0 ? any(0, 101) : any(0, top));
        }
    }

    /** TERMS of DEGREE 2 and more: ideals with something to their STAIR. */
    private String deepText() {
        StringBuilder t = new StringBuilder();
        int terms = any(1, 5);
        for (int k = 0; k < terms; k++) {
            t.append(k > 0 ? "+" : "").append(any(1, 120));
            int top = any(2, 5);
            for (int f = 0; f < top; f++) {
                t.append((char) ('x' + random.nextInt(vars)));
            }
        }
        return t.toString();
    }

    private void blank(StringBuilder t) {
        if (random.nextInt(20) == 0) {
            t.append(' ');
        }
    }

    /** How many bytes, and some of them, the last with what is behind it. */
    private void show(int slot) {
        int many = x.show(slot);
        for (int k = any(-1, 2); k < many && k < 60; k += any(1, 9)) {
            x.out(k);
        }
        x.out(many - 1);
        x.out(many);
    }

    private void wholeWeak() {
        int many = x.step(-1, 0);
        x.step(-1, 1);
        x.step(-1, 2);
        for (int s = 0; s <= many && s < 12; s++) {
            for (int w = 0; w < 5; w++) {
                x.step(s, w);
            }
        }
        x.step(any(-2, 41), any(-1, 5));
        x.look(any(8, 10));
    }
}
