import java.util.ArrayList;
import java.util.List;
import java.util.Random;

/**
 * Moorings as stiff, far and taut as can be told, by winds and winches up to their bounds: the fractions are as long as
 * they ever get, and still those of the oracle's big numbers. With a number: so many runs.
 */
public final class BoundsTest {
    private static final int ACTS = 60;
    private static final int[] FAR = {-4, 4, 3, -3, 4, -4, 2};
    // A load's numbers got that long, so that two of them multiplied are far beyond a long.
    private static final long LONG_ENOUGH = 1L << 45;
    private static long longest = 0;
    private static boolean isWindAtBound = false;
    private static boolean isLaidAtBound = false;

    private final Random random;
    private final MooringDesk desk = new MooringDesk();
    private final Oracle oracle = new Oracle();
    private final int run;

    private BoundsTest(int run) {
        this.run = run;
        this.random = new Random(run);
    }

    public static void main(String[] args) {
        int runs = args.length > 0 ? Integer.parseInt(args[0]) : 25;
        for (int run = 0; run < runs; run++) {
            new BoundsTest(run).go();
        }
        Check.due("long numbers were seen", longest > LONG_ENOUGH, true);
        Check.due("wind came to its bound", isWindAtBound, true);
        Check.due("p came as far as turns can bring it", isLaidAtBound, true);
        Check.finish("BoundsTest");
    }

    private void due(String what, long got, long want) {
        longest = Math.max(longest, Math.abs(want));
        Check.due("run " + run + ": " + what + " [" + oracle + "]", got, want);
    }

    private void go() {
        List<Oracle.Rope> ropes = new ArrayList<>();
        String text = drawMooring(ropes);
        int free = Oracle.freeOf(text);
        int told = oracle.tellMooring(free, new int[3], ropes);
        due("text " + text, Check.tell(desk, 0, text), told);
        if (told < 0) {
            return;
        }
        int[] bounds = {either(999), either(999), either(9999)};
        for (int i = 0; i < ACTS; i++) {
            // While all ropes are there the numbers are longest.
            if (i < 6 || i % 10 == 9) {
                askWhatWouldBe();
            }
            act(bounds, ropes.size());
            askFractions(ropes.size());
        }
    }

    private String drawMooring(List<Oracle.Rope> ropes) {
        StringBuilder text = new StringBuilder("sf").append(random.nextInt(4) == 0 ? 1 + random.nextInt(7) : 7);
        int count = 3 + random.nextInt(6);
        for (int i = 0; i < count; i++) {
            Oracle.Rope o = new Oracle.Rope(9 - random.nextInt(random.nextInt(3) == 0 ? 9 : 2), far(), far(), far(), far(),
                50 - random.nextInt(random.nextBoolean() ? 3 : 51), 999 - random.nextInt(random.nextBoolean() ? 5 : 300));
            ropes.add(o);
            text.append(";rk").append(o.k()).append('x').append(o.x()).append('y').append(o.y()).append('a').append(o.a());
            text.append('b').append(o.b()).append('p').append(o.p()).append('t').append(o.t());
        }
        return text.toString();
    }

    private int either(int bound) {
        return random.nextBoolean() ? bound : -bound;
    }

    private int far() {
        return FAR[random.nextInt(FAR.length)];
    }

    /** As much as a gust can bring the wind nearer to its bound, or on it. */
    private int gust(int axis, int bound) {
        int most = axis == 2 ? 999 : 99;
        return Math.max(-most, Math.min(most, bound - oracle.rule(axis + 1)));
    }

    /** Likewise of a winch, each rope to its own side; now and then back. */
    private int turn(int rope) {
        int bound = (rope + run) % 3 == 0 ? -999 : 999;
        int left = (bound - oracle.rope(rope, 7)) / oracle.rope(rope, 0);
        return random.nextInt(8) == 0 ? -9 : Math.max(-9, Math.min(9, left));
    }

    private void act(int[] bounds, int ropes) {
        int d = random.nextInt(5);
        // By every other run few ropes are turned, so that these come far.
        int rope = random.nextInt(d < 4 && run % 2 == 0 ? 2 : ropes);
        if (d < 2) {
            int along = random.nextInt(3) == 0 ? 0 : gust(0, bounds[0]);
            int across = random.nextInt(3) == 0 ? 0 : gust(1, bounds[1]);
            int round = random.nextInt(3) == 0 ? 0 : gust(2, bounds[2]);
            due("wind", desk.wind(along, across, round), oracle.byHand(0, along, across, round, true));
        } else if (d < 4) {
            int turn = turn(rope);
            due("winch " + rope, desk.winch(rope, turn), oracle.byHand(1, rope, turn, 0, true));
        } else {
            due("renew " + rope, desk.renew(rope), oracle.byHand(3, rope, 0, 0, true));
        }
        for (int i = 0; i < 4; i++) {
            due("cause " + i, desk.cause(i), oracle.cause(i));
        }
        isWindAtBound |= Math.abs(oracle.rule(1)) == 999 || Math.abs(oracle.rule(3)) == 9999;
        isLaidAtBound |= Math.abs(oracle.rope(rope, 7)) + oracle.rope(rope, 0) > 999;
    }

    private void askFractions(int ropes) {
        for (int what = 0; what < 2; what++) {
            for (int rope = 0; rope < ropes; rope++) {
                due("pull " + rope, desk.pull(rope, what), oracle.pull(rope, what));
                due("load " + rope, desk.load(rope, what), oracle.load(rope, what));
            }
            for (int axis = 0; axis < 3; axis++) {
                due("shift " + axis, desk.shift(axis, what), oracle.shift(axis, what));
                due("held " + axis, desk.held(axis, what), oracle.held(axis, what));
            }
            due("uneven", desk.uneven(what), oracle.uneven(what));
        }
        due("worst", desk.worst(), oracle.worst());
        due("tries", desk.rule(4), oracle.rule(4));
    }

    private void askWhatWouldBe() {
        for (int what = 0; what < 4; what++) {
            due("trim " + what, desk.trim(3, what), oracle.trim(3, what));
        }
        for (int what = 0; what < 9; what++) {
            due("most " + what, desk.most(what), oracle.most(what));
        }
        due("key", desk.key(), oracle.key());
        due("fewest", desk.fewest(1), oracle.fewest(1));
    }
}
