import java.util.ArrayList;
import java.util.List;
import java.util.Random;

/**
 * Runs of random calls with told seeds, each answer held against Reference. With arguments:
 * first seed, how many seeds.
 */
public final class OracleTest {
    private static final String[] FIXED = {
        "x^2+y^3", "x^3+y^3+x^2y^2", "x+x^2", "1+x+y", "x^4+y^5+x^2y^3", "xy", "x^2y+y^4", "y-x^2", "x^3-x^5y",
        "x^2+y^2+z^2", "x^3+y^4+z^5", "xyz+x^4+y^4+z^4", "x-x^2", "1-x", "x^30", "y^30x", "x^15y^15", "x-x^30"
    };

    private final Random random;
    private final StairsNear x = new StairsNear();
    private final Reference r = new Reference();
    private final List<String> calls = new ArrayList<>();
    private int vars = 2;

    private OracleTest(long seed) {
        random = new Random(seed);
    }

    public static void main(String[] args) {
        long first = args.length > 0 ? Long.parseLong(args[0]) : 1;
        long many = args.length > 1 ? Long.parseLong(args[1]) : 40;
        for (long seed = first; seed < first + many; seed++) {
            OracleTest one = new OracleTest(seed);
            for (int i = 0; i < 512; i++) {
                one.call();
                if (!Check.allRight()) {
                    System.out.println("seed " + seed + ", the calls before:");
                    one.calls.forEach(System.out::println);
                    Check.finish();
                }
            }
        }
        Check.finish();
    }

    private int pick(int... from) {
        return from[random.nextInt(from.length)];
    }

    private int any(int from, int to) {
        return from + random.nextInt(to - from + 1);
    }

    /** Mostly what can be, now and then what can't. */
    private int some(int from, int to) {
        if (random.nextInt(25) == 0) {
            return pick(-2, -1, to + 1, to + 2, Integer.MAX_VALUE, Integer.MIN_VALUE, 1 << 20);
        }
        return any(from, to);
    }

    private void same(String call, long got, long want) {
        calls.add(call);
        Check.due(call, got, want);
    }

    private void same(String call, boolean got, boolean want) {
        same(call, got ? 1 : 0, want ? 1 : 0);
    }

    private void call() {
        int slot = some(0, 7);
        int into = some(0, 7);
        int set = random.nextInt(3) == 0 ? some(0, 255) : random.nextInt(2) == 0 ? 6 : 1 << any(0, 7) | 1 << any(0, 7);
        int bound = vars == 1 ? 24 : vars == 2 ? 12 : 8;
        int n = some(1, bound);
        int i = some(-1, 5);
        switch (any(0, 32)) {
            case 0: ring(); break;
            case 1: weigh(); break;
            case 2: feedRaw(); break;
            case 3: { int e = any(-1, 25); same("end " + e, x.end(e), r.end(e)); break; }
            case 4: same("poly " + slot, x.poly(slot), r.poly(slot)); faults(); break;
            case 5: case 6: case 7: case 8: case 9: case 10: case 11: text(); break;
            case 12: show(slot); break;
            case 13: { int w = some(0, 4); same("term " + slot + " " + i + " " + w, x.term(slot, i, w), r.term(slot, i, w)); break; }
            case 14: { int w = some(0, 4); same("shape " + slot + " " + w, x.shape(slot, w), r.shape(slot, w)); break; }
            case 15: case 16: { int h = some(0, 2); int b = some(0, 7);
                same("make " + h + " " + slot + " " + b + " " + into, x.make(h, slot, b, into), r.make(h, slot, b, into)); break; }
            case 17: { int v = some(0, 3); same("part " + slot + " " + v + " " + into, x.part(slot, v, into), r.part(slot, v, into)); break; }
            case 18: case 19: case 20: case 21: same("weak " + slot + " " + set, x.weak(slot, set), r.weak(slot, set)); wholeWeak(); break;
            case 22: { int k = some(0, 9); same("kept " + k + " " + into, x.kept(k, into), r.kept(k, into)); show(into); break; }
            case 23: { int w = some(0, 4); int s = some(-1, 8); same("step " + s + " " + w, x.step(s, w), r.step(s, w)); break; }
            case 24: same("corners " + set + " " + n, x.corners(set, n), r.corners(set, n)); break;
            case 25: { int w = some(0, 3); same("corner " + set + " " + n + " " + i + " " + w, x.corner(set, n, i, w), r.corner(set, n, i, w)); break; }
            case 26: { int d = some(-1, bound); same("stairs " + set + " " + n + " " + d, x.stairs(set, n, d), r.stairs(set, n, d)); break; }
            case 27: { int w = some(0, 3); same("stair " + set + " " + n + " " + i + " " + w, x.stair(set, n, i, w), r.stair(set, n, i, w)); break; }
            case 28: same("rest " + slot + " " + set + " " + n + " " + into, x.rest(slot, set, n, into), r.rest(slot, set, n, into)); show(into); break;
            case 29: { int w = some(0, 1); same("length " + set + " " + w, x.length(set, w), r.length(set, w)); break; }
            case 30: { int w = some(0, 1); same("number " + slot + " " + w, x.number(slot, w), r.number(slot, w)); break; }
            case 31: { int w = some(0, 1); same("all " + n + " " + w, x.all(n, w), r.all(n, w)); break; }
            default: for (int w = -1; w < 12; w++) { same("look " + w, x.look(w), r.look(w)); } break;
        }
    }

    private void ring() {
        if (random.nextInt(12) != 0 && calls.size() > 3) {
            return;
        }
        int n = some(1, 3);
        int p = pick(2, 3, 5, 7, 101, 32003, 32749, 32003, 101, 1, 0, -7, 100, 32750, 32771, 32748);
        boolean done = x.ring(n, p);
        same("ring " + n + " " + p, done, r.ring(n, p));
        vars = done ? n : vars;
    }

    private void weigh() {
        if (random.nextInt(4) != 0) {
            return;
        }
        int a = random.nextInt(20) == 0 ? 5 : any(1, 4);
        int b = random.nextInt(20) == 0 ? 0 : any(1, 4);
        int c = random.nextInt(20) == 0 ? -1 : any(1, 4);
        boolean equal = random.nextInt(3) == 0;
        same("weights " + a + " " + b + " " + c, equal ? x.weights(1, 1, 1) : x.weights(a, b, c),
            equal ? r.weights(1, 1, 1) : r.weights(a, b, c));
    }

    private void feedRaw() {
        int[] w = new int[5];
        for (int k = 0; k < 5; k++) {
            w[k] = random.nextInt(3) == 0 ? random.nextInt() : Check.four(randomText(), 0);
        }
        same("feed", x.feed(w[0], w[1], w[2], w[3], w[4]), r.feed(w[0], w[1], w[2], w[3], w[4]));
    }

    private void faults() {
        for (int w = -1; w < 3; w++) {
            same("fault " + w, x.fault(w), r.fault(w));
        }
        same("look 7", x.look(7), r.look(7));
    }

    private void text() {
        int kind = random.nextInt(4);
        String t = kind == 0 ? FIXED[random.nextInt(FIXED.length)] : kind == 1 ? deepText() : randomText();
        if (random.nextInt(6) == 0 && !t.isEmpty()) {
            int at = random.nextInt(t.length());
            String odd = pick(' ', '^', '+', '-', 'x', 'z', 'w', '3', '0', '{', '/', ':', 200, 0) + "";
            t = t.substring(0, at) + (char) Integer.parseInt(odd) + t.substring(random.nextBoolean() ? at : at + 1);
        }
        if (t.length() > 200) {
            t = t.substring(0, 200);
        }
        x.end(0);
        r.end(0);
        for (int k = 0; k < t.length(); k += 20) {
            int[] w = new int[5];
            for (int m = 0; m < 5; m++) {
                w[m] = Check.four(t, k + 4 * m);
            }
            same("feed of " + t, x.feed(w[0], w[1], w[2], w[3], w[4]), r.feed(w[0], w[1], w[2], w[3], w[4]));
        }
        same("end " + t.length(), x.end(t.length()), r.end(t.length()));
        int slot = some(0, random.nextBoolean() ? 2 : 7);
        same("poly " + slot, x.poly(slot), r.poly(slot));
        faults();
        show(slot);
    }

    private String randomText() {
        StringBuilder t = new StringBuilder();
        int terms = random.nextInt(8) == 0 ? any(1, 40) : any(1, 4);
        int top = random.nextInt(6) == 0 ? 30 : any(1, 6);
        for (int k = 0; k < terms; k++) {
            if (k > 0 || random.nextInt(5) == 0) {
                t.append(k > 0 && random.nextBoolean() ? "+" : "-");
            }
            int factors = any(1, 3);
            for (int f = 0; f < factors; f++) {
                blank(t);
                if (random.nextInt(4) == 0) {
                    t.append(random.nextInt(5) == 0 ? any(0, 120000) : any(0, 9));
                    continue;
                }
                t.append((char) ('x' + random.nextInt(random.nextInt(40) == 0 ? 3 : vars)));
                blank(t);
                if (random.nextBoolean()) {
                    t.append('^');
                    blank(t);
                    t.append(random.nextInt(30) == 0 ? any(0, 101) : any(0, top));
                }
            }
            blank(t);
        }
        return t.toString();
    }

    /** TERMS of DEGREE 2 and more: ideals with something to their STAIR. */
    private String deepText() {
        StringBuilder t = new StringBuilder();
        int terms = any(1, 5);
        for (int k = 0; k < terms; k++) {
            t.append(k > 0 ? "+" : "").append(any(1, 120));
            int top = any(2, 5);
            for (int f = 0; f < top; f++) {
                t.append((char) ('x' + random.nextInt(vars)));
            }
        }
        return t.toString();
    }

    private void blank(StringBuilder t) {
        if (random.nextInt(20) == 0) {
            t.append(' ');
        }
    }

    private void show(int slot) {
        int many = x.show(slot);
        same("show " + slot, many, r.show(slot));
        for (int k = -1; k <= Math.max(many, 0); k++) {
            same("out " + k, x.out(k), r.out(k));
        }
    }

    private void wholeWeak() {
        for (int s = -1; s < 42; s++) {
            for (int w = -1; w < 6; w++) {
                Check.due("step " + s + " " + w, x.step(s, w), r.step(s, w));
            }
        }
        for (int w = 8; w < 11; w++) {
            Check.due("look " + w, x.look(w), r.look(w));
        }
    }
}
