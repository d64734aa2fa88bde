import java.util.ArrayList;
import java.util.Arrays;
import java.util.Collections;
import java.util.Comparator;
import java.util.HashMap;
import java.util.List;
import java.util.Map;

/**
 * The document once more, as slowly and literally as can be, over the Java library: maps from
 * EXPONENTS to numbers, all multiples of all POLYNOMIALS of a SET for each N anew. Shares nothing
 * with StairsNear but the document.
 */
final class Reference {
    static final int NONE = -1;

    private int n = 2;
    private int p = 32003;
    private int[] w = {1, 1, 1};
    private final List<Map<List<Integer>, Integer>> slots = new ArrayList<>();
    private final List<Integer> tape = new ArrayList<>();
    private int faultKind = 0;
    private int faultPlace = NONE;
    private String shown = "";
    private Weak weak = null;

    Reference() {
        for (int i = 0; i < 8; i++) {
            slots.add(new HashMap<>());
        }
    }

    // ---- polynomials

    private int degree(List<Integer> m) {
        return m.get(0) * w[0] + m.get(1) * w[1] + m.get(2) * w[2];
    }

    private Comparator<List<Integer>> order() {
        return (a, b) -> {
            if (degree(a) != degree(b)) {
                return Integer.compare(degree(a), degree(b));
            }
            for (int v = 0; v < 3; v++) {
                if (!a.get(v).equals(b.get(v))) {
                    return Integer.compare(b.get(v), a.get(v));
                }
            }
            return 0;
        };
    }

    private List<List<Integer>> sorted(Map<List<Integer>, Integer> f) {
        List<List<Integer>> list = new ArrayList<>(f.keySet());
        list.sort(order());
        return list;
    }

    private void add(Map<List<Integer>, Integer> f, List<Integer> m, long c) {
        long sum = Math.floorMod(f.getOrDefault(m, 0) + c, (long) p);
        if (sum == 0) {
            f.remove(m);
        } else {
            f.put(m, (int) sum);
        }
    }

    private static List<Integer> times(List<Integer> a, List<Integer> b) {
        return List.of(a.get(0) + b.get(0), a.get(1) + b.get(1), a.get(2) + b.get(2));
    }

    private Map<List<Integer>, Integer> product(Map<List<Integer>, Integer> a, Map<List<Integer>, Integer> b) {
        Map<List<Integer>, Integer> r = new HashMap<>();
        a.forEach((ma, ca) -> b.forEach((mb, cb) -> add(r, times(ma, mb), (long) ca * cb)));
        return r;
    }

    private Map<List<Integer>, Integer> sum(Map<List<Integer>, Integer> a, long c, Map<List<Integer>, Integer> b) {
        Map<List<Integer>, Integer> r = new HashMap<>(a);
        b.forEach((m, cb) -> add(r, m, c * cb));
        return r;
    }

    private static boolean fits(Map<List<Integer>, Integer> f) {
        return f.size() <= 60 && f.keySet().stream().allMatch(m -> Collections.max(m) <= 30);
    }

    private int low(Map<List<Integer>, Integer> f) {
        return f.keySet().stream().mapToInt(this::degree).min().orElse(NONE);
    }

    private int high(Map<List<Integer>, Integer> f) {
        return f.keySet().stream().mapToInt(this::degree).max().orElse(NONE);
    }

    private Map<List<Integer>, Integer> derivative(Map<List<Integer>, Integer> f, int v) {
        Map<List<Integer>, Integer> r = new HashMap<>();
        f.forEach((m, c) -> {
            if (m.get(v) > 0) {
                List<Integer> less = new ArrayList<>(m);
                less.set(v, m.get(v) - 1);
                add(r, List.copyOf(less), (long) c * m.get(v));
            }
        });
        return r;
    }

    private boolean slotOk(int s) {
        return s >= 0 && s <= 7;
    }

    private boolean setOk(int s) {
        return s >= 0 && s <= 255;
    }

    private int bound() {
        return new int[] {24, 12, 8}[n - 1];
    }

    private boolean boundOk(int b) {
        return b >= 1 && b <= bound();
    }

    private int store(int into, Map<List<Integer>, Integer> f) {
        slots.set(into, f);
        return f.size();
    }

    // ---- the face

    boolean ring(int newN, int newP) {
        if (newN < 1 || newN > 3 || newP < 2 || newP > 32749) {
            return false;
        }
        for (int d = 2; d < newP; d++) {
            if (newP % d == 0) {
                return false;
            }
        }
        n = newN;
        p = newP;
        w = new int[] {1, 1, 1};
        for (int i = 0; i < 8; i++) {
            slots.set(i, new HashMap<>());
        }
        weak = null;
        return true;
    }

    boolean weights(int x, int y, int z) {
        for (int one : new int[] {x, y, z}) {
            if (one < 1 || one > 4) {
                return false;
            }
        }
        w = new int[] {x, y, z};
        weak = null;
        return true;
    }

    int feed(int a, int b, int c, int d, int e) {
        if (tape.size() > 180) {
            return NONE;
        }
        for (int four : new int[] {a, b, c, d, e}) {
            for (byte one : java.nio.ByteBuffer.allocate(4).putInt(four).array()) {
                tape.add(Byte.toUnsignedInt(one));
            }
        }
        return tape.size();
    }

    boolean end(int size) {
        if (size < 0 || size > tape.size()) {
            return false;
        }
        tape.subList(size, tape.size()).clear();
        return true;
    }

    int poly(int slot) {
        List<Integer> text = new ArrayList<>(tape);
        tape.clear();
        faultKind = 0;
        faultPlace = NONE;
        if (!slotOk(slot)) {
            return NONE;
        }
        Map<List<Integer>, Integer> f = parse(text);
        return faultKind != 0 ? NONE : store(slot, f);
    }

    int fault(int what) {
        return what == 0 ? faultKind : what == 1 ? faultPlace : NONE;
    }

    int show(int slot) {
        if (!slotOk(slot)) {
            return NONE;
        }
        List<String> parts = new ArrayList<>();
        for (List<Integer> m : sorted(slots.get(slot))) {
            StringBuilder vars = new StringBuilder();
            for (int v = 0; v < 3; v++) {
                if (m.get(v) > 0) {
                    vars.append("xyz".charAt(v)).append(m.get(v) > 1 ? "^" + m.get(v) : "");
                }
            }
            int c = slots.get(slot).get(m);
            parts.add((c == 1 && vars.length() > 0 ? "" : "" + c) + vars);
        }
        shown = parts.isEmpty() ? "0" : String.join("+", parts);
        return shown.length();
    }

    int out(int i) {
        return i >= 0 && i < shown.length() ? shown.charAt(i) : NONE;
    }

    int term(int slot, int i, int what) {
        if (!slotOk(slot)) {
            return NONE;
        }
        List<List<Integer>> list = sorted(slots.get(slot));
        if (i == NONE) {
            return list.size();
        }
        if (i < 0 || i >= list.size() || what < 0 || what > 4) {
            return NONE;
        }
        List<Integer> m = list.get(i);
        return what == 0 ? slots.get(slot).get(m) : what == 4 ? degree(m) : m.get(what - 1);
    }

    int shape(int slot, int what) {
        if (!slotOk(slot) || what < 0 || what > 4) {
            return NONE;
        }
        Map<List<Integer>, Integer> f = slots.get(slot);
        if (what == 4) {
            return f.containsKey(List.of(0, 0, 0)) ? 1 : 0;
        }
        if (what == 3) {
            return f.keySet().stream().map(this::degree).distinct().count() <= 1 ? 1 : 0;
        }
        return f.isEmpty() ? NONE : what == 0 ? low(f) : what == 1 ? high(f) : high(f) - low(f);
    }

    int make(int how, int a, int b, int into) {
        if (how < 0 || how > 2 || !slotOk(a) || !slotOk(b) || !slotOk(into)) {
            return NONE;
        }
        Map<List<Integer>, Integer> r = how == 2 ? product(slots.get(a), slots.get(b))
            : sum(slots.get(a), how == 0 ? 1 : -1, slots.get(b));
        return fits(r) ? store(into, r) : NONE;
    }

    int part(int slot, int v, int into) {
        if (!slotOk(slot) || !slotOk(into) || v < 0 || (v >= n && v != 3)) {
            return NONE;
        }
        Map<List<Integer>, Integer> f = slots.get(slot);
        if (v < 3) {
            return store(into, derivative(f, v));
        }
        Map<List<Integer>, Integer> r = new HashMap<>(f);
        r.keySet().removeIf(m -> degree(m) != low(f));
        return store(into, r);
    }

    // ---- weak division

    private static final class One {
        Map<List<Integer>, Integer> h;
        Map<List<Integer>, Integer> u;
        Map<Integer, Map<List<Integer>, Integer>> q = new HashMap<>();
        int own = NONE;
    }

    private static final class Weak {
        int slot;
        int bits;
        int many;
        Map<List<Integer>, Integer> f;
        Map<Integer, Map<List<Integer>, Integer>> g = new HashMap<>();
        One end;
        List<int[]> steps = new ArrayList<>();
    }

    int weak(int slot, int set) {
        if (!slotOk(slot) || !setOk(set)) {
            return NONE;
        }
        weak = divide(slot, set);
        return weak == null ? -2 : weak.steps.size();
    }

    private Weak divide(int slot, int set) {
        Weak r = new Weak();
        r.slot = slot;
        r.f = Map.copyOf(slots.get(slot));
        List<One> t = new ArrayList<>();
        One h = new One();
        h.h = r.f;
        h.u = Map.of(List.of(0, 0, 0), 1);
        for (int k = 0; k < 8; k++) {
            if ((set >> k) % 2 == 1 && !slots.get(k).isEmpty()) {
                r.bits += 1 << k;
                r.g.put(k, Map.copyOf(slots.get(k)));
                h.q.put(k, Map.of());
                One one = new One();
                one.h = r.g.get(k);
                one.own = k;
                t.add(one);
            }
        }
        while (!h.h.isEmpty()) {
            List<Integer> lead = sorted(h.h).get(0);
            int best = NONE;
            for (int i = 0; i < t.size(); i++) {
                List<Integer> m = sorted(t.get(i).h).get(0);
                boolean divides = m.get(0) <= lead.get(0) && m.get(1) <= lead.get(1) && m.get(2) <= lead.get(2);
                if (divides && (best == NONE || ecart(t.get(i).h) < ecart(t.get(best).h))) {
                    best = i;
                }
            }
            if (best == NONE) {
                break;
            }
            if (r.steps.size() == 40) {
                return null;
            }
            One by = t.get(best);
            boolean comes = ecart(by.h) > ecart(h.h);
            r.steps.add(new int[] {best, ecart(by.h), ecart(h.h), comes ? 1 : 0, degree(lead)});
            if (comes) {
                t.add(h);
                if (t.size() > 20) {
                    return null;
                }
            }
            h = less(h, lead, by);
            if (!fits(h.h) || !fits(h.u) || !h.q.values().stream().allMatch(Reference::fits)) {
                return null;
            }
        }
        r.many = t.size();
        r.end = h;
        return r;
    }

    private int ecart(Map<List<Integer>, Integer> f) {
        return high(f) - low(f);
    }

    private One less(One h, List<Integer> lead, One by) {
        List<Integer> m = sorted(by.h).get(0);
        List<Integer> go = List.of(lead.get(0) - m.get(0), lead.get(1) - m.get(1), lead.get(2) - m.get(2));
        int c = 0;
        while ((long) c * by.h.get(m) % p != h.h.get(lead)) {
            c++;
        }
        Map<List<Integer>, Integer> factor = Map.of(go, c);
        One r = new One();
        r.h = sum(h.h, -1, product(factor, by.h));
        r.u = by.own == NONE ? sum(h.u, -1, product(factor, by.u)) : h.u;
        for (int k : h.q.keySet()) {
            if (by.own == NONE) {
                r.q.put(k, sum(h.q.get(k), -1, product(factor, by.q.get(k))));
            } else {
                r.q.put(k, by.own == k ? sum(h.q.get(k), 1, factor) : h.q.get(k));
            }
        }
        return r;
    }

    int kept(int k, int into) {
        if (weak == null || !slotOk(into) || k < 0 || k > 9 || (k > 1 && !weak.end.q.containsKey(k - 2))) {
            return NONE;
        }
        return store(into, new HashMap<>(k == 0 ? weak.end.h : k == 1 ? weak.end.u : weak.end.q.get(k - 2)));
    }

    int step(int i, int what) {
        if (weak == null) {
            return NONE;
        }
        if (i == NONE) {
            if (what == 2) {
                Map<List<Integer>, Integer> left = product(weak.end.u, weak.f);
                for (int k : weak.g.keySet()) {
                    left = sum(left, -1, product(weak.end.q.get(k), weak.g.get(k)));
                }
                return sum(left, -1, weak.end.h).isEmpty() ? 1 : 0;
            }
            return what == 0 ? weak.steps.size() : what == 1 ? weak.many : NONE;
        }
        return i < 0 || i >= weak.steps.size() || what < 0 || what > 4 ? NONE : weak.steps.get(i)[what];
    }

    // ---- ideals

    private List<List<Integer>> below(int top) {
        List<List<Integer>> list = new ArrayList<>();
        for (int x = 0; x < top; x++) {
            for (int y = 0; y < (n > 1 ? top : 1); y++) {
                for (int z = 0; z < (n > 2 ? top : 1); z++) {
                    if (degree(List.of(x, y, z)) < top) {
                        list.add(List.of(x, y, z));
                    }
                }
            }
        }
        list.sort(order());
        return list;
    }

    private long inverse(long a) {
        long r = 1;
        for (int i = 0; i < p - 2; i++) {
            r = r * a % p;
        }
        return r;
    }

    /** The reduced echelon form of I at N: one row for each LEAD. */
    private Map<Integer, long[]> echelon(List<Map<List<Integer>, Integer>> from, int top, List<List<Integer>> columns) {
        Map<List<Integer>, Integer> where = new HashMap<>();
        for (int i = 0; i < columns.size(); i++) {
            where.put(columns.get(i), i);
        }
        List<long[]> all = new ArrayList<>();
        for (Map<List<Integer>, Integer> g : from) {
            for (List<Integer> m : columns) {
                long[] row = new long[columns.size()];
                g.forEach((mg, c) -> {
                    Integer at = where.get(times(m, mg));
                    if (at != null) {
                        row[at] = c;
                    }
                });
                all.add(row);
            }
        }
        Map<Integer, long[]> rows = new HashMap<>();
        for (int c = 0; c < columns.size(); c++) {
            final int col = c;
            int found = NONE;
            for (int i = 0; i < all.size() && found == NONE; i++) {
                if (all.get(i)[col] != 0) {
                    found = i;
                }
            }
            if (found == NONE) {
                continue;
            }
            long[] pivot = all.remove(found);
            long inv = inverse(pivot[col]);
            for (int k = 0; k < pivot.length; k++) {
                pivot[k] = pivot[k] * inv % p;
            }
            List<long[]> others = new ArrayList<>(all);
            others.addAll(rows.values());
            for (long[] row : others) {
                long by = row[col];
                for (int k = 0; k < row.length && by != 0; k++) {
                    row[k] = Math.floorMod(row[k] - by * pivot[k], (long) p);
                }
            }
            all.removeIf(row -> Arrays.stream(row).allMatch(e -> e == 0));
            rows.put(col, pivot);
        }
        return rows;
    }

    private List<Map<List<Integer>, Integer>> of(int set) {
        List<Map<List<Integer>, Integer>> from = new ArrayList<>();
        for (int k = 0; k < 8; k++) {
            if ((set >> k) % 2 == 1) {
                from.add(slots.get(k));
            }
        }
        return from;
    }

    private List<List<Integer>> stairOf(List<Map<List<Integer>, Integer>> from, int top) {
        List<List<Integer>> columns = below(top);
        Map<Integer, long[]> rows = echelon(from, top, columns);
        List<List<Integer>> list = new ArrayList<>();
        for (int c = 0; c < columns.size(); c++) {
            if (!rows.containsKey(c)) {
                list.add(columns.get(c));
            }
        }
        return list;
    }

    private List<List<Integer>> cornersOf(int set, int top) {
        List<List<Integer>> leads = below(top);
        leads.removeAll(stairOf(of(set), top));
        List<List<Integer>> list = new ArrayList<>();
        for (List<Integer> m : leads) {
            boolean alone = true;
            for (List<Integer> o : leads) {
                if (!o.equals(m) && o.get(0) <= m.get(0) && o.get(1) <= m.get(1) && o.get(2) <= m.get(2)) {
                    alone = false;
                }
            }
            if (alone) {
                list.add(m);
            }
        }
        return list;
    }

    int corners(int set, int top) {
        return setOk(set) && boundOk(top) ? cornersOf(set, top).size() : NONE;
    }

    private int tell(List<List<Integer>> list, int i, int what) {
        if (i < 0 || i >= list.size() || what < 0 || what > 3) {
            return NONE;
        }
        return what == 3 ? degree(list.get(i)) : list.get(i).get(what);
    }

    int corner(int set, int top, int i, int what) {
        return setOk(set) && boundOk(top) ? tell(cornersOf(set, top), i, what) : NONE;
    }

    int stairs(int set, int top, int d) {
        if (!setOk(set) || !boundOk(top) || d < NONE || d >= top) {
            return NONE;
        }
        return (int) stairOf(of(set), top).stream().filter(m -> d == NONE || degree(m) == d).count();
    }

    int stair(int set, int top, int i, int what) {
        return setOk(set) && boundOk(top) ? tell(stairOf(of(set), top), i, what) : NONE;
    }

    int rest(int slot, int set, int top, int into) {
        if (!slotOk(slot) || !setOk(set) || !boundOk(top) || !slotOk(into)) {
            return NONE;
        }
        List<List<Integer>> columns = below(top);
        Map<Integer, long[]> rows = echelon(of(set), top, columns);
        Map<List<Integer>, Integer> r = new HashMap<>();
        for (int c = 0; c < columns.size(); c++) {
            int num = slots.get(slot).getOrDefault(columns.get(c), 0);
            if (!rows.containsKey(c)) {
                add(r, columns.get(c), num);
                continue;
            }
            for (int k = 0; k < columns.size(); k++) {
                // Reduced rows: beside its LEAD a row has MONOMIALS of the STAIR alone.
                if (k != c) {
                    add(r, columns.get(k), -rows.get(c)[k] * num);
                }
            }
        }
        return r.size() > 60 ? NONE : store(into, r);
    }

    private int[] lengthOf(List<Map<List<Integer>, Integer>> from) {
        int most = 0;
        for (int v = 0; v < n; v++) {
            most = Math.max(most, w[v]);
        }
        for (int top = 1; top <= bound(); top++) {
            List<List<Integer>> stair = stairOf(from, top);
            int least = top - most;
            if (stair.stream().noneMatch(m -> degree(m) >= least)) {
                return new int[] {top, stair.size()};
            }
        }
        return new int[] {NONE, NONE};
    }

    int length(int set, int what) {
        return setOk(set) && (what == 0 || what == 1) ? lengthOf(of(set))[what] : NONE;
    }

    int number(int slot, int what) {
        if (!slotOk(slot) || what < 0 || what > 1) {
            return NONE;
        }
        List<Map<List<Integer>, Integer>> from = new ArrayList<>();
        for (int v = 0; v < n; v++) {
            from.add(derivative(slots.get(slot), v));
        }
        if (what == 1) {
            from.add(slots.get(slot));
        }
        return lengthOf(from)[1];
    }

    int all(int top, int what) {
        if (!boundOk(top) || what < 0 || what > 1) {
            return NONE;
        }
        return what == 0 ? below(top).size() : below(top + 1).size() - below(top).size();
    }

    int look(int what) {
        switch (what) {
            case 0: return n;
            case 1: return p;
            case 2: case 3: case 4: return w[what - 2];
            case 5: return bound();
            case 6: {
                int bits = 0;
                for (int k = 0; k < 8; k++) {
                    bits += slots.get(k).isEmpty() ? 0 : 1 << k;
                }
                return bits;
            }
            case 7: return tape.size();
            case 8: return weak == null ? 0 : 1;
            case 9: return weak == null ? NONE : weak.bits;
            case 10: return weak == null ? NONE : weak.slot;
            default: return NONE;
        }
    }

    // ---- TEXT: all FAULTS are gathered, then the first is chosen

    private Map<List<Integer>, Integer> parse(List<Integer> text) {
        List<int[]> faults = new ArrayList<>();
        Map<List<Integer>, Integer> f = new HashMap<>();
        StringBuilder s = new StringBuilder();
        text.forEach(b -> s.append((char) (int) b));
        String vars = "xyz".substring(0, n);
        boolean needFactor = true;
        boolean first = true;
        long sign = 1;
        long num = 1;
        int[] exps = new int[3];
        int i = 0;
        while (true) {
            while (i < s.length() && s.charAt(i) == ' ') {
                i++;
            }
            if (i == s.length()) {
                if (needFactor) {
                    faults.add(new int[] {i, 1});
                } else {
                    add(f, List.of(exps[0], exps[1], exps[2]), sign * num % p);
                }
                break;
            }
            char c = s.charAt(i);
            String rest = s.substring(i);
            String digits = rest.replaceFirst("(?s)[^0-9].*", "");
            if (c == '-' && first) {
                sign = -1;
                i++;
            } else if ((c == '+' || c == '-') && !needFactor) {
                add(f, List.of(exps[0], exps[1], exps[2]), sign * num % p);
                sign = c == '+' ? 1 : -1;
                num = 1;
                exps = new int[3];
                needFactor = true;
                i++;
            } else if (!digits.isEmpty()) {
                if (digits.length() > 5) {
                    faults.add(new int[] {i, 1});
                    break;
                }
                num = num * Long.parseLong(digits) % p;
                needFactor = false;
                i += digits.length();
            } else if (vars.indexOf(c) >= 0) {
                int at = i;
                int e = 1;
                i++;
                java.util.regex.Matcher hat = java.util.regex.Pattern.compile("( *\\^ *)([0-9]*)").matcher(s.substring(i));
                if (hat.lookingAt()) {
                    int begin = i + hat.group(1).length();
                    if (hat.group(2).isEmpty() || hat.group(2).length() > 2) {
                        faults.add(new int[] {begin, 1});
                        break;
                    }
                    e = Integer.parseInt(hat.group(2));
                    i = begin + hat.group(2).length();
                }
                exps[vars.indexOf(c)] += e;
                if (exps[vars.indexOf(c)] > 30) {
                    faults.add(new int[] {at, 2});
                }
                needFactor = false;
            } else {
                faults.add(new int[] {i, 1});
                break;
            }
            first = false;
        }
        faults.sort((a, b) -> a[0] != b[0] ? a[0] - b[0] : a[1] - b[1]);
        if (faults.isEmpty() && f.size() > 60) {
            faults.add(new int[] {s.length(), 3});
        }
        if (!faults.isEmpty()) {
            faultKind = faults.get(0)[1];
            faultPlace = faults.get(0)[0];
        }
        return f;
    }
}
