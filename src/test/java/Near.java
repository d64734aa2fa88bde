import java.util.ArrayList;
import java.util.List;

/**
 * A StairsNear as the tests call it: each of its answers is held against Reference's, and it is
 * used for at most 512 calls, since what later calls answer is free.
 */
final class Near {
    private static final int MOST_CALLS = 512;

    private final StairsNear near = new StairsNear();
    private final Reference reference = new Reference();
    private final List<String> calls = new ArrayList<>();

    boolean ring(int n, int p) {
        return same(near.ring(n, p), reference.ring(n, p), "ring", n, p);
    }

    boolean weights(int x, int y, int z) {
        return same(near.weights(x, y, z), reference.weights(x, y, z), "weights", x, y, z);
    }

    int feed(int a, int b, int c, int d, int e) {
        return same(near.feed(a, b, c, d, e), reference.feed(a, b, c, d, e), "feed", a, b, c, d, e);
    }

    boolean end(int n) {
        return same(near.end(n), reference.end(n), "end", n);
    }

    int poly(int slot) {
        return same(near.poly(slot), reference.poly(slot), "poly", slot);
    }

    int fault(int what) {
        return same(near.fault(what), reference.fault(what), "fault", what);
    }

    int show(int slot) {
        return same(near.show(slot), reference.show(slot), "show", slot);
    }

    int out(int i) {
        return same(near.out(i), reference.out(i), "out", i);
    }

    int term(int slot, int i, int what) {
        return same(near.term(slot, i, what), reference.term(slot, i, what), "term", slot, i, what);
    }

    int shape(int slot, int what) {
        return same(near.shape(slot, what), reference.shape(slot, what), "shape", slot, what);
    }

    int make(int how, int a, int b, int into) {
        return same(near.make(how, a, b, into), reference.make(how, a, b, into), "make", how, a, b, into);
    }

    int part(int slot, int v, int into) {
        return same(near.part(slot, v, into), reference.part(slot, v, into), "part", slot, v, into);
    }

    int weak(int slot, int set) {
        return same(near.weak(slot, set), reference.weak(slot, set), "weak", slot, set);
    }

    int kept(int k, int into) {
        return same(near.kept(k, into), reference.kept(k, into), "kept", k, into);
    }

    int step(int i, int what) {
        return same(near.step(i, what), reference.step(i, what), "step", i, what);
    }

    int corners(int set, int n) {
        return same(near.corners(set, n), reference.corners(set, n), "corners", set, n);
    }

    int corner(int set, int n, int i, int what) {
        return same(near.corner(set, n, i, what), reference.corner(set, n, i, what), "corner", set, n, i, what);
    }

    int stairs(int set, int n, int d) {
        return same(near.stairs(set, n, d), reference.stairs(set, n, d), "stairs", set, n, d);
    }

    int stair(int set, int n, int i, int what) {
        return same(near.stair(set, n, i, what), reference.stair(set, n, i, what), "stair", set, n, i, what);
    }

    int rest(int slot, int set, int n, int into) {
        return same(near.rest(slot, set, n, into), reference.rest(slot, set, n, into), "rest", slot, set, n, into);
    }

    int length(int set, int what) {
        return same(near.length(set, what), reference.length(set, what), "length", set, what);
    }

    int number(int slot, int what) {
        return same(near.number(slot, what), reference.number(slot, what), "number", slot, what);
    }

    int all(int n, int what) {
        return same(near.all(n, what), reference.all(n, what), "all", n, what);
    }

    int look(int what) {
        return same(near.look(what), reference.look(what), "look", what);
    }

    // ---- more than one call

    /** THE TAPE is this text then. */
    void tape(String text) {
        end(0);
        for (int i = 0; i < text.length(); i += 20) {
            feed(Check.four(text, i), Check.four(text, i + 4), Check.four(text, i + 8), Check.four(text, i + 12),
                Check.four(text, i + 16));
        }
        end(text.length());
    }

    int read(int slot, String text) {
        tape(text);
        return poly(slot);
    }

    String shown(int slot) {
        show(slot);
        return shownLatest();
    }

    String shownLatest() {
        StringBuilder text = new StringBuilder();
        for (int i = 0, b = out(0); b >= 0; b = out(i)) {
            text.append((char) b);
            i++;
        }
        return text.toString();
    }

    /** Comes into a SLOT by kept(), and is SHOWN. */
    String keptShown(int k, int into) {
        kept(k, into);
        return shown(into);
    }

    /** All that can be looked at and stays by that. */
    String state() {
        StringBuilder text = new StringBuilder("look");
        for (int what = 0; what < 11; what++) {
            text.append(' ').append(look(what));
        }
        text.append(", fault ").append(fault(0)).append(' ').append(fault(1)).append(", shown ").append(shownLatest());
        for (int slot = 0; slot < 8; slot++) {
            text.append(", slot ").append(slot).append(':');
            for (int i = 0, many = term(slot, -1, 0); i < many; i++) {
                for (int what = 0; what < 4; what++) {
                    text.append(' ').append(term(slot, i, what));
                }
            }
        }
        text.append(", steps ").append(step(-1, 0)).append(' ').append(step(-1, 1));
        for (int i = 0, many = step(-1, 0); i < many; i++) {
            text.append(' ').append(step(i, 0)).append(step(i, 3));
        }
        return text.toString();
    }

    /** A SLOT holds as many different MONOMIALS of VARIABLES v and w then, number 1 each. */
    void fill(int slot, int many, char v, char w) {
        StringBuilder text = new StringBuilder();
        for (int i = 0; i < many; i++) {
            text.append(text.length() > 0 ? "+" : "").append(v).append('^').append(1 + i / 10).append(w).append('^').append(i % 10);
            if (i % 10 == 9 || i == many - 1) {
                read(i < 10 ? slot : 7, text.toString());
                if (i >= 10) {
                    make(0, slot, 7, slot);
                }
                text.setLength(0);
            }
        }
        read(7, "0");
    }

    int callsMade() {
        return calls.size();
    }

    List<String> callsUntilNow() {
        return calls;
    }

    private int same(int got, int want, String name, int... arguments) {
        StringBuilder call = new StringBuilder(name);
        for (int i = 0; i < arguments.length; i++) {
            call.append(i == 0 ? "(" : ", ").append(arguments[i]);
        }
        call.append(')');
        calls.add(call.toString());
        Check.due(call + ", held against Reference,", got, want);
        if (calls.size() > MOST_CALLS) {
            // No test asks so much: it waits for an answer that does not come.
            Check.due("the calls of one object", calls.size(), MOST_CALLS);
            Check.finish();
        }
        return got;
    }

    private boolean same(boolean got, boolean want, String name, int... arguments) {
        return same(got ? 1 : 0, want ? 1 : 0, name, arguments) == 1;
    }
}
