import java.math.BigInteger;
import java.util.ArrayDeque;
import java.util.ArrayList;
import java.util.Arrays;
import java.util.HashMap;
import java.util.HashSet;
import java.util.List;
import java.util.Map;
import java.util.Set;
import java.util.TreeMap;

/**
 * The document said again in the slowest and plainest way, without a row that is kept: what it
 * answers is compared with what NotLikeThem answers.
 */
final class Plain {
    static final int UNKNOWN = -1, OUTSIDE = -2, STATE = -3, FULL = -4, NONE = -9;

    private int n = 4;
    private int[][] weight = new int[4][4];
    private int[] kind = new int[4];
    private int[] lean = new int[4];
    private final List<Integer> weeks = new ArrayList<>();

    // ---- what the words mean

    private boolean person(int p) {
        return p >= 0 && p < n;
    }

    private boolean dress(int d) {
        return d >= 0 && d < (1 << n);
    }

    private boolean way(int w) {
        return w == 0 || w == 1;
    }

    private static boolean wears(int d, int p) {
        return (d & (1 << p)) != 0;
    }

    private int theSum(int p, int d) {
        int ones = 0, zeros = 0;
        for (int q = 0; q < n; q++) {
            if (q == p) continue;
            if (wears(d, q)) ones += weight[p][q];
            else zeros += weight[p][q];
        }
        return ones - zeros + lean[p];
    }

    private boolean next(int k, int p, int d) {
        int s = theSum(p, d);
        switch (k) {
            case 0: return s > 0 ? true : s < 0 ? false : wears(d, p);
            case 1: return s > 0 ? false : s < 0 ? true : wears(d, p);
            case 2: return wears(d, p);
            default: return !wears(d, p);
        }
    }

    private boolean isCalm(int[] kinds, int p, int d) {
        return next(kinds[p], p, d) == wears(d, p);
    }

    private boolean isRest(int[] kinds, int d) {
        for (int p = 0; p < n; p++) if (!isCalm(kinds, p, d)) return false;
        return true;
    }

    private static int with(int d, int p, boolean one) {
        return one ? d | (1 << p) : d & ~(1 << p);
    }

    private int step(int d, int way) {
        int then = d;
        for (int p = 0; p < n; p++) then = with(then, p, next(kind[p], p, way == 0 ? d : then));
        return then;
    }

    private List<Integer> allRests() {
        List<Integer> all = new ArrayList<>();
        for (int d = 0; d < (1 << n); d++) if (isRest(kind, d)) all.add(d);
        return all;
    }

    /** STEPS till ENTERED, ENTERED, LONG. */
    private int[] runOf(int d, int way) {
        Map<Integer, Integer> at = new HashMap<>();
        int now = d, steps = 0;
        while (!at.containsKey(now)) {
            at.put(now, steps);
            now = step(now, way);
            steps++;
        }
        return new int[] {at.get(now), now, steps - at.get(now)};
    }

    /** By least DRESS: LONG, DRAWS, the most STEPS. */
    private TreeMap<Integer, int[]> allRings(int way) {
        TreeMap<Integer, int[]> rings = new TreeMap<>();
        for (int d = 0; d < (1 << n); d++) {
            int[] run = runOf(d, way);
            int least = run[1];
            for (int now = step(run[1], way); now != run[1]; now = step(now, way)) least = Math.min(least, now);
            int[] ring = rings.computeIfAbsent(least, x -> new int[3]);
            ring[0] = run[2];
            ring[1]++;
            ring[2] = Math.max(ring[2], run[0]);
        }
        return rings;
    }

    /** Fewest LONE CHANGES to each DRESS that they lead to, this one itself at 0. */
    private Map<Integer, Integer> reach(int from) {
        Map<Integer, Integer> far = new HashMap<>();
        ArrayDeque<Integer> todo = new ArrayDeque<>();
        far.put(from, 0);
        todo.add(from);
        while (!todo.isEmpty()) {
            int d = todo.remove();
            for (int p = 0; p < n; p++) {
                if (isCalm(kind, p, d)) continue;
                int then = d ^ (1 << p);
                if (far.containsKey(then)) continue;
                far.put(then, far.get(d) + 1);
                todo.add(then);
            }
        }
        return far;
    }

    private boolean comesBack(int d) {
        Set<Integer> seen = new HashSet<>();
        ArrayDeque<Integer> todo = new ArrayDeque<>();
        todo.add(d);
        while (!todo.isEmpty()) {
            int at = todo.remove();
            for (int p = 0; p < n; p++) {
                if (isCalm(kind, p, at)) continue;
                int then = at ^ (1 << p);
                if (then == d) return true;
                if (seen.add(then)) todo.add(then);
            }
        }
        return false;
    }

    private int[] toTurn() {
        int[] best = null;
        for (int set = 0; set < (1 << n); set++) {
            int[] kinds = kind.clone();
            boolean able = true;
            for (int p = 0; p < n; p++) {
                if (!wears(set, p)) continue;
                if (kinds[p] > 1) able = false;
                else kinds[p] = 1 - kinds[p];
            }
            if (!able || best != null && Integer.bitCount(set) >= best[0]) continue;
            for (int d = 0; d < (1 << n); d++) {
                if (isRest(kinds, d)) {
                    best = new int[] {Integer.bitCount(set), set};
                    break;
                }
            }
        }
        return best == null ? new int[] {NONE, NONE} : best;
    }

    private int[] toHold() {
        for (int many = 0; many <= n; many++) {
            for (int d = 0; d < (1 << n); d++) {
                for (int set = 0; set < (1 << n); set++) {
                    if (Integer.bitCount(set) != many) continue;
                    int[] kinds = kind.clone();
                    for (int p = 0; p < n; p++) if (wears(set, p)) kinds[p] = 2;
                    if (isRest(kinds, d)) return new int[] {many, d};
                }
            }
        }
        throw new IllegalStateException("all FIRM is a REST");
    }

    private BigInteger[] atRest(int d, int draws) {
        if (isRest(kind, d)) return new BigInteger[] {BigInteger.ONE, BigInteger.ONE};
        if (draws == 0) return new BigInteger[] {BigInteger.ZERO, BigInteger.ONE};
        BigInteger up = BigInteger.ZERO, low = BigInteger.ONE;
        int restless = 0;
        for (int p = 0; p < n; p++) {
            if (isCalm(kind, p, d)) continue;
            restless++;
            BigInteger[] part = atRest(d ^ (1 << p), draws - 1);
            up = up.multiply(part[1]).add(part[0].multiply(low));
            low = low.multiply(part[1]);
        }
        low = low.multiply(BigInteger.valueOf(restless));
        BigInteger common = up.gcd(low);
        return new BigInteger[] {up.divide(common), low.divide(common)};
    }

    private int gainOf(int way, int steps, int s, int cost, int price) {
        int gain = 0;
        for (int d = 0; d < (1 << n); d++) gain += Math.min(s, asked(d, way, steps)) * price - s * cost;
        return gain;
    }

    // ---- the town

    int people(int many) {
        if (many < 1 || many > 10) return OUTSIDE;
        int were = n;
        n = many;
        weight = new int[n][n];
        kind = new int[n];
        lean = new int[n];
        weeks.clear();
        return were;
    }

    int tie(int p, int q, int w) {
        if (!person(p) || !person(q)) return UNKNOWN;
        if (w < 0 || w > 9) return OUTSIDE;
        if (p == q) return STATE;
        int was = weight[p][q];
        weight[p][q] = w;
        return was;
    }

    int set(int p, int what, int v) {
        if (!person(p)) return UNKNOWN;
        if (what != 0 && what != 1) return OUTSIDE;
        if (what == 0 && (v < 0 || v > 3)) return OUTSIDE;
        if (what == 1 && (v < -9 || v > 9)) return OUTSIDE;
        int[] row = what == 0 ? kind : lean;
        int was = row[p];
        row[p] = v;
        return was;
    }

    int about(int p, int what) {
        if (!person(p)) return UNKNOWN;
        if (what < 0 || what > 3) return OUTSIDE;
        if (what == 0) return kind[p];
        if (what == 1) return lean[p];
        int many = 0;
        for (int q = 0; q < n; q++) if ((what == 2 ? weight[p][q] : weight[q][p]) > 0) many++;
        return many;
    }

    int sees(int p, int q) {
        if (!person(p) || !person(q)) return UNKNOWN;
        return p == q ? STATE : weight[p][q];
    }

    // ---- steps

    int sum(int p, int d) {
        if (!person(p)) return UNKNOWN;
        return dress(d) ? theSum(p, d) : OUTSIDE;
    }

    int calm(int d) {
        if (!dress(d)) return OUTSIDE;
        int bits = 0;
        for (int p = 0; p < n; p++) if (isCalm(kind, p, d)) bits += 1 << p;
        return bits;
    }

    int after(int d, int way, int steps) {
        if (!dress(d) || !way(way) || steps < 0 || steps > 10000) return OUTSIDE;
        int now = d;
        for (int i = 0; i < steps; i++) now = step(now, way);
        return now;
    }

    int run(int d, int way, int what) {
        if (!dress(d) || !way(way) || what < 0 || what > 2) return OUTSIDE;
        return runOf(d, way)[what];
    }

    int rings(int way) {
        return way(way) ? allRings(way).size() : OUTSIDE;
    }

    int ring(int way, int ring, int what) {
        if (!way(way)) return OUTSIDE;
        TreeMap<Integer, int[]> rings = allRings(way);
        if (ring < 0 || ring >= rings.size()) return UNKNOWN;
        if (what < 0 || what > 3) return OUTSIDE;
        int least = new ArrayList<>(rings.keySet()).get(ring);
        return what == 0 ? least : rings.get(least)[what - 1];
    }

    int longest(int way) {
        if (!way(way)) return OUTSIDE;
        int most = 0;
        for (int[] ring : allRings(way).values()) most = Math.max(most, ring[0]);
        return most;
    }

    // ---- rests

    int rests() {
        return allRests().size();
    }

    int rest(int i) {
        List<Integer> all = allRests();
        return i < 0 || i >= all.size() ? UNKNOWN : all.get(i);
    }

    int even() {
        for (int p = 0; p < n; p++) {
            if (kind[p] == 3) return 0;
            for (int q = 0; q < n; q++) {
                if (weight[p][q] != weight[q][p]) return 0;
                if (weight[p][q] > 0 && kind[p] == 0 && kind[q] == 1) return 0;
            }
        }
        return 1;
    }

    int heat(int d) {
        if (!dress(d)) return OUTSIDE;
        if (even() == 0) return STATE;
        int heat = 10000;
        for (int p = 0; p < n; p++) {
            for (int q = p + 1; q < n; q++) {
                if (kind[p] == 2 && kind[q] == 2) continue;
                int more = wears(d, p) == wears(d, q) ? weight[p][q] : -weight[p][q];
                heat += kind[p] == 1 || kind[q] == 1 ? -more : more;
            }
            int more = wears(d, p) ? lean[p] : -lean[p];
            if (kind[p] == 0) heat += more;
            if (kind[p] == 1) heat -= more;
        }
        return heat;
    }

    int lone(int p, int d) {
        if (!person(p)) return UNKNOWN;
        if (!dress(d)) return OUTSIDE;
        if (isCalm(kind, p, d)) return STATE;
        return with(d, p, next(kind[p], p, d));
    }

    int settled() {
        return witness() == NONE ? 1 : 0;
    }

    int witness() {
        for (int d = 0; d < (1 << n); d++) if (comesBack(d)) return d;
        return NONE;
    }

    int turn() {
        return toTurn()[0];
    }

    int turned() {
        return toTurn()[1];
    }

    int hold(boolean dress) {
        return toHold()[dress ? 1 : 0];
    }

    // ---- by chance

    int may(int d, int rest) {
        if (!dress(d)) return OUTSIDE;
        int end = rest(rest);
        if (end < 0) return UNKNOWN;
        return reach(d).containsKey(end) ? 1 : 0;
    }

    int mays(int d) {
        if (!dress(d)) return OUTSIDE;
        Map<Integer, Integer> far = reach(d);
        int many = 0;
        for (int rest : allRests()) if (far.containsKey(rest)) many++;
        return many;
    }

    int soon(int d) {
        if (!dress(d)) return OUTSIDE;
        Map<Integer, Integer> far = reach(d);
        int fewest = NONE;
        for (int rest : allRests()) {
            Integer draws = far.get(rest);
            if (draws != null && (fewest == NONE || draws < fewest)) fewest = draws;
        }
        return fewest;
    }

    long likely(int d, int draws, boolean upper) {
        if (!dress(d) || draws < 0 || draws > 4) return OUTSIDE;
        return atRest(d, draws)[upper ? 0 : 1].longValueExact();
    }

    // ---- the picture

    int week(int d) {
        if (!dress(d)) return OUTSIDE;
        if (weeks.size() == 8) return FULL;
        weeks.add(d);
        return weeks.size();
    }

    int wipe() {
        int had = weeks.size();
        weeks.clear();
        return had;
    }

    int maybe(int p) {
        if (!person(p)) return UNKNOWN;
        int bits = 0;
        for (int k = 0; k < 4; k++) {
            boolean fits = true;
            for (int i = 1; i < weeks.size(); i++) {
                if (next(k, p, weeks.get(i - 1)) != wears(weeks.get(i), p)) fits = false;
            }
            if (fits) bits |= 1 << k;
        }
        return bits;
    }

    long ways() {
        long all = 1;
        for (int p = 0; p < n; p++) {
            int kinds = 0;
            for (int k = 0; k < 4; k++) if ((maybe(p) & (1 << k)) != 0) kinds++;
            all *= kinds;
        }
        return all;
    }

    int take() {
        for (int p = 0; p < n; p++) if (maybe(p) == 0) return STATE;
        int[] were = Arrays.copyOf(kind, n);
        int otherwise = 0;
        for (int p = 0; p < n; p++) {
            kind[p] = Integer.numberOfTrailingZeros(maybe(p));
            if (kind[p] != were[p]) otherwise++;
        }
        return otherwise;
    }

    // ---- the shop

    int asked(int d, int way, int steps) {
        if (!dress(d) || !way(way) || steps < 1 || steps > 50) return OUTSIDE;
        int asked = 0, now = d;
        for (int i = 0; i < steps; i++) {
            int then = step(now, way);
            for (int p = 0; p < n; p++) if (wears(then, p) && !wears(now, p)) asked++;
            now = then;
        }
        return asked;
    }

    int gain(int way, int steps, int s, int cost, int price) {
        if (!way(way) || steps < 1 || steps > 50 || s < 0 || s > 500) return OUTSIDE;
        if (cost < 1 || cost > 99 || price < 1 || price > 99) return OUTSIDE;
        return gainOf(way, steps, s, cost, price);
    }

    int order(int way, int steps, int cost, int price) {
        if (!way(way) || steps < 1 || steps > 50) return OUTSIDE;
        if (cost < 1 || cost > 99 || price < 1 || price > 99) return OUTSIDE;
        int[] asked = new int[1 << n];
        for (int d = 0; d < asked.length; d++) asked[d] = asked(d, way, steps);
        int best = 0;
        long bestGain = Long.MIN_VALUE;
        for (int s = 0; s <= 500; s++) {
            long gain = 0;
            for (int a : asked) gain += Math.min(s, a) * price - s * cost;
            if (gain > bestGain) {
                bestGain = gain;
                best = s;
            }
        }
        return best;
    }

    int count(int what) {
        int many = 0;
        switch (what) {
            case 0: return n;
            case 1:
                for (int[] row : weight) for (int w : row) if (w > 0) many++;
                return many;
            case 2: return weeks.size();
            case 3:
            case 4:
                for (int k : kind) if (k == what - 3) many++;
                return many;
            default: return OUTSIDE;
        }
    }
}
