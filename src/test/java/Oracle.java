import java.math.BigInteger;
import java.util.ArrayList;
import java.util.Arrays;
import java.util.HashSet;
import java.util.List;
import java.util.Set;

/** The document once more, by other means: big fractions, elimination, whole copies of all that stands. */
final class Oracle {
    static final int NONE = -1;
    static final int HIDDEN = -1000000;

    /** A fraction of big numbers. */
    record Frac(BigInteger up, BigInteger low) implements Comparable<Frac> {
        static final Frac ZERO = of(0, 1);

        static Frac of(long up, long low) {
            return make(BigInteger.valueOf(up), BigInteger.valueOf(low));
        }

        static Frac make(BigInteger up, BigInteger low) {
            BigInteger g = up.gcd(low);
            if (low.signum() < 0) {
                g = g.negate();
            }
            return new Frac(up.divide(g), low.divide(g));
        }

        Frac plus(Frac o) {
            return make(up.multiply(o.low).add(o.up.multiply(low)), low.multiply(o.low));
        }

        Frac minus(Frac o) {
            return plus(new Frac(o.up.negate(), o.low));
        }

        Frac times(Frac o) {
            return make(up.multiply(o.up), low.multiply(o.low));
        }

        Frac times(long n) {
            return times(of(n, 1));
        }

        Frac by(Frac o) {
            return make(up.multiply(o.low), low.multiply(o.up));
        }

        int sign() {
            return up.signum();
        }

        long told(int what) {
            return (what == 0 ? up : low).longValueExact();
        }

        @Override
        public int compareTo(Frac o) {
            return up.multiply(o.low).compareTo(o.up.multiply(low));
        }
    }

    /** A rope as it was told. */
    record Rope(int k, int x, int y, int a, int b, int p, int t) {
        int way(int axis) {
            return axis == 0 ? a : axis == 1 ? b : x * b - y * a;
        }
    }

    /** All that an act can change. */
    static final class State {
        int[] p;
        int[] is;
        int[] wind;
        int tries;
        int everBroke;
        List<int[]> log = new ArrayList<>();

        State copy() {
            State s = new State();
            s.p = p.clone();
            s.is = is.clone();
            s.wind = wind.clone();
            s.tries = tries;
            s.everBroke = everBroke;
            s.log = new ArrayList<>(log);
            return s;
        }

        int bits(int wanted) {
            int bits = 0;
            for (int r = 0; r < is.length; r++) {
                if (is[r] == wanted) {
                    bits |= 1 << r;
                }
            }
            return bits;
        }

        boolean fast(int r) {
            return is[r] == 0 || is[r] == 1;
        }
    }

    int free;
    List<Rope> ropes = new ArrayList<>();
    State now;
    State image;
    List<State> past = new ArrayList<>();
    List<int[][]> scripts = new ArrayList<>();
    int[] status = new int[5];
    List<Integer> causes = new ArrayList<>();
    /** Who broke by the latest act that was tried, in order. */
    List<Integer> broke = new ArrayList<>();

    // ---- settling ----

    Frac[] shiftBy(State s, Set<Integer> set) {
        List<Integer> axes = new ArrayList<>();
        for (int i = 0; i < 3; i++) {
            if ((free >> i & 1) != 0) {
                axes.add(i);
            }
        }
        int n = axes.size();
        Frac[][] m = new Frac[n][n + 1];
        for (int i = 0; i < n; i++) {
            for (int j = 0; j < n; j++) {
                m[i][j] = Frac.ZERO;
                for (int r : set) {
                    Rope rope = ropes.get(r);
                    m[i][j] = m[i][j].plus(Frac.of((long) rope.k() * rope.way(axes.get(i)) * rope.way(axes.get(j)), 1));
                }
            }
            m[i][n] = Frac.of(s.wind[axes.get(i)], 1);
            for (int r : set) {
                m[i][n] = m[i][n].plus(Frac.of((long) s.p[r] * ropes.get(r).way(axes.get(i)), 1));
            }
        }
        for (int col = 0; col < n; col++) {
            int pivot = col;
            while (pivot < n && m[pivot][col].sign() == 0) {
                pivot++;
            }
            if (pivot == n) {
                return null;
            }
            Frac[] swap = m[pivot];
            m[pivot] = m[col];
            m[col] = swap;
            for (int row = 0; row < n; row++) {
                if (row == col) {
                    continue;
                }
                Frac f = m[row][col].by(m[col][col]);
                for (int j = col; j <= n; j++) {
                    m[row][j] = m[row][j].minus(f.times(m[col][j]));
                }
            }
        }
        Frac[] shift = {Frac.ZERO, Frac.ZERO, Frac.ZERO};
        for (int i = 0; i < n; i++) {
            shift[axes.get(i)] = m[i][n].by(m[i][i]);
        }
        return shift;
    }

    Frac pullBy(State s, Frac[] shift, int r) {
        Rope rope = ropes.get(r);
        Frac sum = Frac.ZERO;
        for (int axis = 0; axis < 3; axis++) {
            sum = sum.plus(shift[axis].times(rope.way(axis)));
        }
        return Frac.of(s.p[r], 1).minus(sum.times(rope.k()));
    }

    /** The reason why not, or -1. */
    int settle(State s) {
        broke = new ArrayList<>();
        int tries = 0;
        Set<Integer> set = new java.util.TreeSet<>();
        for (int r = 0; r < ropes.size(); r++) {
            if (s.is[r] == 0) {
                set.add(r);
            }
        }
        Set<Set<Integer>> seen = new HashSet<>();
        seen.add(new HashSet<>(set));
        while (true) {
            Frac[] shift = shiftBy(s, set);
            if (shift == null) {
                return 3;
            }
            tries++;
            int leaver = -1;
            int joiner = -1;
            Frac[] pulls = new Frac[ropes.size()];
            for (int r = 0; r < ropes.size(); r++) {
                pulls[r] = pullBy(s, shift, r);
                boolean in = set.contains(r);
                if (in && pulls[r].sign() < 0 && (leaver < 0 || pulls[r].compareTo(pulls[leaver]) < 0)) {
                    leaver = r;
                }
                if (!in && s.fast(r) && pulls[r].sign() > 0 && (joiner < 0 || pulls[r].compareTo(pulls[joiner]) > 0)) {
                    joiner = r;
                }
            }
            if (leaver >= 0 || joiner >= 0) {
                if (leaver >= 0) {
                    set.remove(leaver);
                } else {
                    set.add(joiner);
                }
                if (!seen.add(new HashSet<>(set))) {
                    return 4;
                }
                continue;
            }
            int worst = -1;
            for (int r : set) {
                Frac load = pulls[r].by(Frac.of(ropes.get(r).t(), 1));
                if (load.compareTo(Frac.of(1, 1)) > 0
                        && (worst < 0 || load.compareTo(pulls[worst].by(Frac.of(ropes.get(worst).t(), 1))) > 0)) {
                    worst = r;
                }
            }
            if (worst < 0) {
                break;
            }
            s.is[worst] = 2;
            set.remove(worst);
            broke.add(worst);
            seen.clear();
            seen.add(new HashSet<>(set));
        }
        for (int r = 0; r < ropes.size(); r++) {
            if (s.fast(r)) {
                s.is[r] = set.contains(r) ? 0 : 1;
            }
        }
        s.tries = tries;
        s.everBroke += broke.size();
        return -1;
    }

    int brokeBits() {
        int bits = 0;
        for (int r : broke) {
            bits |= 1 << r;
        }
        return bits;
    }

    /** The reason why not, or -1; the state is spoilt if not. */
    int act(State s, int sort, int one, int two, int three) {
        broke = new ArrayList<>();
        if (ropes.isEmpty() || sort != 0 && (one < 0 || one >= ropes.size())) {
            return 0;
        }
        if (sort == 0) {
            long[] sum = {(long) s.wind[0] + one, (long) s.wind[1] + two, (long) s.wind[2] + three};
            if (!gust(one, two, three) || Math.abs(sum[0]) > 999 || Math.abs(sum[1]) > 999 || Math.abs(sum[2]) > 9999) {
                return 1;
            }
            if (one == 0 && two == 0 && three == 0) {
                return 2;
            }
            s.wind = new int[] {(int) sum[0], (int) sum[1], (int) sum[2]};
        } else if (sort == 1) {
            if (two < -9 || two > 9 || Math.abs(s.p[one] + two * ropes.get(one).k()) > 999) {
                return 1;
            }
            if (two == 0 || !s.fast(one)) {
                return 2;
            }
            s.p[one] += two * ropes.get(one).k();
        } else if (sort == 2) {
            if (!s.fast(one)) {
                return 2;
            }
            s.is[one] = 3;
        } else {
            if (s.fast(one)) {
                return 2;
            }
            s.is[one] = 0;
            s.p[one] = ropes.get(one).p();
        }
        return settle(s);
    }

    static boolean gust(int along, int across, int round) {
        return along >= -99 && along <= 99 && across >= -99 && across <= 99 && round >= -999 && round <= 999;
    }

    // ---- texts, told as values ----

    static int freeOf(String text) {
        return text.startsWith("sf") ? text.charAt(2) - '0' : 3;
    }

    /** The ropes of a text that has no blanks. */
    static List<Rope> ropesOf(String text) {
        List<Rope> ropes = new ArrayList<>();
        for (String clause : text.split(";")) {
            if (clause.startsWith("r")) {
                ropes.add(new Rope(item(clause, "k", 1), item(clause, "x", 0), item(clause, "y", 0), item(clause, "a", 1),
                    item(clause, "b", 0), item(clause, "p", 0), item(clause, "t", 999)));
            }
        }
        return ropes;
    }

    private static int item(String clause, String letter, int untold) {
        java.util.regex.Matcher m = java.util.regex.Pattern.compile(letter + "(-?[0-9]+)").matcher(clause);
        return m.find() ? Integer.parseInt(m.group(1)) : untold;
    }

    int tellMooring(int newFree, int[] wind, List<Rope> told) {
        Oracle other = new Oracle();
        other.free = newFree;
        other.ropes = told;
        State s = new State();
        s.wind = wind.clone();
        s.is = new int[told.size()];
        s.p = new int[told.size()];
        for (int r = 0; r < told.size(); r++) {
            s.p[r] = told.get(r).p();
        }
        if (other.settle(s) != -1) {
            return -2;
        }
        free = newFree;
        ropes = told;
        now = s;
        past.clear();
        image = null;
        return told.size();
    }

    int tellScript(int[][] steps) {
        if (scripts.size() == 4) {
            return NONE;
        }
        scripts.add(steps);
        return scripts.size() - 1;
    }

    // ---- acts of the face ----

    private void line(State s, int sort, int one) {
        s.log.add(new int[] {sort, sort == 0 ? NONE : one, brokeBits()});
    }

    private void stand(State s) {
        past.add(now);
        if (past.size() > 40) {
            past.remove(0);
        }
        now = s;
    }

    int byHand(int sort, int one, int two, int three, boolean isTold) {
        State s = now == null ? null : now.copy();
        int reason = act(s, sort, one, two, three);
        if (reason == -1) {
            line(s, sort, one);
            stand(s);
            return brokeBits();
        }
        if (isTold) {
            causes.clear();
            refuse(sort, reason);
        }
        return NONE;
    }

    private void refuse(int sort, int reason) {
        causes.add(100 + sort);
        if (reason >= 3) {
            causes.add(200 + broke.size());
        }
        causes.add(reason);
        status[reason]++;
    }

    int perform(int script) {
        if (script < 0 || script >= scripts.size() || now == null) {
            causes = new ArrayList<>(List.of(0));
            status[0]++;
            return NONE;
        }
        State s = now.copy();
        int i = 0;
        for (int[] step : scripts.get(script)) {
            int reason = act(s, step[0], step[1], step[2], step[3]);
            if (reason != -1) {
                causes = new ArrayList<>(List.of(1000 + i));
                refuse(step[0], reason);
                return NONE;
            }
            line(s, step[0], step[1]);
            i++;
        }
        stand(s);
        return i;
    }

    int undo() {
        if (past.isEmpty()) {
            return NONE;
        }
        now = past.remove(past.size() - 1);
        return past.size();
    }

    int status(int what) {
        return what < 0 || what > 4 ? NONE : status[what];
    }

    int cause(int i) {
        return i < 0 || i >= causes.size() ? NONE : causes.get(i);
    }

    int log(int i, int what) {
        int size = now == null ? 0 : now.log.size();
        return i < 0 || i >= Math.min(60, size) || what < 0 || what > 2 ? HIDDEN : now.log.get(size - 1 - i)[what];
    }

    int years(int n, long seed) {
        if (now == null || n < 1 || n > 40) {
            return NONE;
        }
        BigInteger[] x = {BigInteger.valueOf(seed)};
        for (int i = 0; i < n; i++) {
            int d = draw(x, 8);
            if (d < 5) {
                int u = draw(x, 21) - 10;
                int v = draw(x, 21) - 10;
                int w = draw(x, 61) - 30;
                byHand(0, u, v, w, false);
            } else if (d < 7) {
                int r = draw(x, ropes.size());
                int t = draw(x, 7) - 3;
                byHand(1, r, t, 0, false);
            } else {
                int r = draw(x, ropes.size());
                byHand(now.fast(r) ? 2 : 3, r, 0, 0, false);
            }
        }
        return now.bits(0);
    }

    private static int draw(BigInteger[] x, int of) {
        BigInteger all = BigInteger.ONE.shiftLeft(64);
        x[0] = x[0].multiply(new BigInteger("6364136223846793005")).add(new BigInteger("1442695040888963407")).mod(all);
        return x[0].shiftRight(33).mod(BigInteger.valueOf(of)).intValue();
    }

    int image() {
        if (now == null) {
            return NONE;
        }
        image = now.copy();
        return now.bits(0);
    }

    int back() {
        if (image == null) {
            return NONE;
        }
        now = image.copy();
        past.clear();
        return now.bits(0);
    }

    // ---- what is asked ----

    private boolean is(int rope) {
        return rope >= 0 && rope < ropes.size();
    }

    private Frac[] shift() {
        return shiftOf(now);
    }

    private Frac[] shiftOf(State s) {
        Set<Integer> set = new HashSet<>();
        for (int r = 0; r < ropes.size(); r++) {
            if (s.is[r] == 0) {
                set.add(r);
            }
        }
        return shiftBy(s, set);
    }

    private Frac loadOf(State s, int r) {
        return pullBy(s, shiftOf(s), r).by(Frac.of(ropes.get(r).t(), 1));
    }

    int rule(int what) {
        if (now == null || what < 0 || what > 4) {
            return HIDDEN;
        }
        return new int[] {free, now.wind[0], now.wind[1], now.wind[2], now.tries}[what];
    }

    /** HIDDEN less 1 for what is thrown. */
    int rope(int r, int what) {
        if (!is(r) || what < 0 || what > 8) {
            return HIDDEN - 1;
        }
        Rope o = ropes.get(r);
        return new int[] {o.k(), o.x(), o.y(), o.a(), o.b(), o.way(2), o.t(), now.p[r], now.is[r]}[what];
    }

    long pull(int r, int what) {
        return !is(r) || what < 0 || what > 1 || !now.fast(r) ? HIDDEN : pullBy(now, shift(), r).told(what);
    }

    long shift(int axis, int what) {
        return now == null || axis < 0 || axis > 2 || what < 0 || what > 1 ? HIDDEN : shift()[axis].told(what);
    }

    long held(int axis, int what) {
        if (now == null || axis < 0 || axis > 2 || what < 0 || what > 1) {
            return HIDDEN;
        }
        Frac sum = Frac.of(now.wind[axis], 1);
        for (int r = 0; r < ropes.size(); r++) {
            if (now.is[r] == 0) {
                sum = sum.plus(pullBy(now, shift(), r).times(ropes.get(r).way(axis)));
            }
        }
        // On a free axis the balance itself makes it 0.
        return sum.told(what);
    }

    long load(int r, int what) {
        return !is(r) || what < 0 || what > 1 || now.is[r] != 0 ? HIDDEN : loadOf(now, r).told(what);
    }

    private int extreme(State s, boolean isLoad, int sign) {
        int found = NONE;
        for (int r = 0; r < ropes.size(); r++) {
            if (s.is[r] != 0) {
                continue;
            }
            Frac of = isLoad ? loadOf(s, r) : pullBy(s, shiftOf(s), r);
            if (found < 0 || of.compareTo(isLoad ? loadOf(s, found) : pullBy(s, shiftOf(s), found)) * sign > 0) {
                found = r;
            }
        }
        return found;
    }

    int worst() {
        return now == null ? NONE : extreme(now, true, 1);
    }

    int run(int script, int what) {
        if (script < 0 || script >= scripts.size() || now == null || what < 0 || what > 1) {
            return HIDDEN;
        }
        State s = now;
        int i = 0;
        for (int[] step : scripts.get(script)) {
            State next = s.copy();
            if (act(next, step[0], step[1], step[2], step[3]) != -1) {
                return what == 0 ? i : Integer.bitCount(s.bits(0));
            }
            s = next;
            i++;
        }
        return what == 0 ? NONE : Integer.bitCount(s.bits(0));
    }

    private boolean isWind(int a, int b, int c) {
        return now != null && gust(a, b, c) && (a != 0 || b != 0 || c != 0);
    }

    int stand(int a, int b, int c, int what) {
        if (!isWind(a, b, c) || what < 0 || what > 1) {
            return HIDDEN;
        }
        State s = now.copy();
        int times = 0;
        while (times < 60) {
            if (act(s, 0, a, b, c) != -1) {
                return what == 0 ? times : NONE;
            }
            if (!broke.isEmpty()) {
                return what == 0 ? times : broke.get(0);
            }
            times++;
        }
        return what == 0 ? 60 : NONE;
    }

    int fall(int a, int b, int c, int i, int what) {
        if (!isWind(a, b, c) || what < 0 || what > 1) {
            return HIDDEN;
        }
        List<int[]> all = new ArrayList<>();
        State s = now.copy();
        for (int times = 1; times <= 60 && act(s, 0, a, b, c) == -1; times++) {
            for (int r : broke) {
                all.add(new int[] {r, times});
            }
        }
        return i < 0 || i >= all.size() ? HIDDEN : all.get(i)[what];
    }

    int ease(int r) {
        if (!is(r) || !now.fast(r)) {
            return NONE;
        }
        State s = now.copy();
        int turns = 0;
        while (s.is[r] != 1) {
            if (turns == 60 || act(s, 1, r, -1, 0) != -1 || !broke.isEmpty()) {
                return NONE;
            }
            turns++;
        }
        return turns;
    }

    int range(int axis, boolean isUp) {
        if (now == null || axis < 0 || axis > 2) {
            return NONE;
        }
        int[] by = new int[3];
        by[axis] = isUp ? 1 : -1;
        State s = now.copy();
        for (int times = 0; times < 60; times++) {
            if (act(s, 0, by[0], by[1], by[2]) != -1 || !broke.isEmpty() || s.bits(0) != now.bits(0)) {
                return times;
            }
        }
        return 60;
    }

    long uneven(int what) {
        if (now == null || what < 0 || what > 1) {
            return HIDDEN;
        }
        return loadOf(now, extreme(now, true, 1)).minus(loadOf(now, extreme(now, true, -1))).told(what);
    }

    int accord(int one, int other) {
        if (!is(one) || !is(other)) {
            return HIDDEN;
        }
        int sum = 0;
        for (int axis = 0; axis < 3; axis++) {
            sum += (free >> axis & 1) * ropes.get(one).way(axis) * ropes.get(other).way(axis);
        }
        return sum;
    }

    long trim(int n, int what) {
        if (now == null || n < 1 || n > 3 || what < 0 || what > 3) {
            return HIDDEN;
        }
        long[] found = {NONE, 0, 0, 1};
        Frac least = null;
        for (int r = 0; r < ropes.size(); r++) {
            for (int turn = -n; turn <= n; turn++) {
                State s = now.copy();
                if (turn == 0 || !now.fast(r) || act(s, 1, r, turn, 0) != -1 || !broke.isEmpty()) {
                    continue;
                }
                Frac load = loadOf(s, extreme(s, true, 1));
                if (least == null || load.compareTo(least) < 0) {
                    least = load;
                    found = new long[] {r, turn, load.told(0), load.told(1)};
                }
            }
        }
        return found[what];
    }

    int fewest(int what) {
        if (now == null || what < 0 || what > 1) {
            return NONE;
        }
        int best = NONE;
        int fast = now.bits(0) | now.bits(1);
        for (int set = 0; set < 1 << ropes.size(); set++) {
            if ((set & fast) != set || best != NONE && Integer.bitCount(best) <= Integer.bitCount(set)) {
                continue;
            }
            State s = now.copy();
            for (int r = 0; r < ropes.size(); r++) {
                if (s.fast(r)) {
                    s.is[r] = (set >> r & 1) != 0 ? 0 : 3;
                }
            }
            if (settle(s) == -1 && broke.isEmpty()) {
                best = set;
            }
        }
        return best == NONE || what == 1 ? best : Integer.bitCount(best);
    }

    int without(int r, int what) {
        if (!is(r) || !now.fast(r) || what < 0 || what > 1) {
            return NONE;
        }
        State s = now.copy();
        if (act(s, 2, r, 0, 0) != -1) {
            return NONE;
        }
        return what == 0 ? s.bits(0) : brokeBits();
    }

    int key() {
        if (now == null) {
            return NONE;
        }
        int found = NONE;
        int worst = -1;
        for (int r = 0; r < ropes.size(); r++) {
            if (now.fast(r)) {
                int how = act(now.copy(), 2, r, 0, 0) != -1 ? 100 : broke.size();
                if (how > worst) {
                    worst = how;
                    found = r;
                }
            }
        }
        return found;
    }

    int odds(int chance, int a, int b, int c, int n) {
        if (!isWind(a, b, c) || chance < 0 || chance > 100 || n < 1 || n > 6) {
            return NONE;
        }
        return (int) odds(now, 1000000000L, chance, new int[] {a, b, c}, n);
    }

    private long odds(State s, long parts, int chance, int[] by, int n) {
        if (n == 0) {
            return parts;
        }
        long comes = parts * chance / 100;
        long sum = odds(s, parts - comes, chance, by, n - 1);
        State next = s.copy();
        if (act(next, 0, by[0], by[1], by[2]) == -1 && broke.isEmpty()) {
            sum += odds(next, comes, chance, by, n - 1);
        }
        return sum;
    }

    int shares(int r, int c) {
        if (!is(r) || now.is[r] != 0 || c < 0 || c > 999) {
            return NONE;
        }
        return c * ropes.get(r).k() / most(6);
    }

    int most(int what) {
        if (now == null || what < 0 || what > 8) {
            return HIDDEN;
        }
        switch (what) {
            case 4:
                return extreme(now, false, 1);
            case 5:
                return extreme(now, false, -1);
            case 6:
                int sum = 0;
                for (int r = 0; r < ropes.size(); r++) {
                    sum += now.is[r] == 0 ? ropes.get(r).k() : 0;
                }
                return sum;
            case 7:
                return now.everBroke;
            case 8:
                int[] found = {Integer.MAX_VALUE, NONE};
                for (int pair = 0; pair < 64; pair++) {
                    int one = pair / 8;
                    int other = pair % 8;
                    if (one < other && other < ropes.size() && now.is[one] == 0 && now.is[other] == 0
                            && accord(one, other) < found[0]) {
                        found = new int[] {accord(one, other), pair};
                    }
                }
                return found[1];
            default:
                return now.bits(what);
        }
    }

    int count(int what) {
        if (what < 0 || what > 4) {
            return HIDDEN;
        }
        // The tape is not kept here: whoever compares has it empty.
        return new int[] {ropes.size(), scripts.size(), 0, now == null ? 0 : Math.min(60, now.log.size()), past.size()}[what];
    }

    @Override
    public String toString() {
        return ropes + " free " + free + " " + (now == null ? "" : Arrays.toString(now.is) + Arrays.toString(now.wind));
    }
}
