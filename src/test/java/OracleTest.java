import java.util.ArrayList;
import java.util.Arrays;
import java.util.List;
import java.util.NoSuchElementException;
import java.util.Random;

/** Runs of drawn calls, each answered by the desk and by the oracle; with a number: so many runs. */
public final class OracleTest {
    private static final int CALLS = 400;
    private final Random random;
    private final MooringDesk desk = new MooringDesk();
    private final Oracle oracle = new Oracle();
    private final int run;
    private final int style;
    private static final long[] SEEN = new long[64];

    private OracleTest(int run) {
        this.run = run;
        this.random = new Random(run);
        this.style = random.nextInt(6);
    }

    // Moorings by which a turn of a winch goes round for ever (so few do that none is drawn), with rope and turn.
    private static final String[] ROUNDS = {
        "sf7;rk4x2y-2a-3b1p20;rk6x-1y4a-4b4p-22;rk9y4a4b-4p18;rk6x-3y-1p-17;rk9x-3y-4a-2b-2p13;rk4x-2y-1a-1b-1p-9",
        "sf3;rk7x-2y4a-1b-1p34;rk7x4y4a-3b-2p45t16;rk8x-1y-2a4b3p3;rk3x4y-2a-4b3p-41;rk6x4y-4a0b-4p11;rx-3y1a3b-3p1;"
            + "rk8x-1y3a-4b-4p16;rk8x2y-3a3b4p-45t62",
        "sf7;rk4x-2y3a4b1p-11t93;rk6x1y-3a2b3p-33t91;rk6x-4y4a-2b4p-46t89;rk7x1y2a3b-1p-38;rk6x-2y-3a-1b-1p22;"
            + "rk2x-2y3a0b1p-3;rk9y-4a2b4p-34"};
    // Moorings with rare ways: by a break it goes by a set once more that it went by ahead of it (as it is told, or by
    // a wind of 37); a rope is taken and breaks at once, and those that are taut stay the same.
    private static final String[] RARE = {"sf1;rk9p25t34;rk3a-1p-36t7;rk4a-1p-1t29;ra2p36t25;rk9p21;rk2p31",
        "sf1;rk7a-1p-27t9;rk6p34t22;rk7a-1p-8;rk3a4p14;rk7a4p-10t55", "sf3;rk3p34;rk8p47t1;rk3a0b2p-14t51;rk7a-2b1p-32t20"};
    private static final int[][] ROUND_TURNS = {{0, 9}, {2, -5}, {0, 4}};

    public static void main(String[] args) {
        int runs = args.length > 0 ? Integer.parseInt(args[0]) : 150;
        for (int i = 0; i < ROUNDS.length; i++) {
            new OracleTest(-1 - i).goRound(ROUNDS[i], ROUND_TURNS[i]);
        }
        for (int i = 0; i < RARE.length; i++) {
            new OracleTest(-11 - i).goRare(RARE[i]);
        }
        for (String[] round : Rounds.ACTS) {
            new OracleTest(-21).goSteps(round);
        }
        for (String[] round : Rounds.BEHIND_A_BREAK) {
            new OracleTest(-22).goSteps(round);
        }
        for (String text : Rounds.TEXTS) {
            new OracleTest(-23).goSteps(new String[] {text});
        }
        for (int run = 0; run < runs; run++) {
            new OracleTest(run).go();
        }
        System.out.println("refused, by status: " + SEEN[0] + " " + SEEN[1] + " " + SEEN[2] + " " + SEEN[3] + " " + SEEN[4]
                + "; broken " + SEEN[5]);
        for (int i = 0; i <= 5; i++) {
            Check.due("something of sort " + i + " was seen", SEEN[i] > 0, true);
        }
        Check.finish("OracleTest");
    }

    private void go() {
        tellMooring();
        for (int i = 0; i < CALLS; i++) {
            int d = random.nextInt(100);
            if (d < 45) {
                ask();
            } else if (d < 90) {
                act();
            } else if (d < 91) {
                tellMooring();
            } else if (d < 93) {
                tellScript();
            } else if (d < 96) {
                due("undo", desk.undo(), oracle.undo());
            } else if (d < 97) {
                due("image", desk.image(), oracle.image());
            } else if (d < 98) {
                due("back", desk.back(), oracle.back());
            } else {
                askAll();
            }
        }
        askAll();
        for (int i = 0; i < 5; i++) {
            SEEN[i] += oracle.status[i];
        }
        SEEN[5] += Math.max(0, oracle.most(7));
    }

    private void goRound(String text, int[] turn) {
        due("text " + text, Check.tell(desk, 0, text), oracle.tellMooring(Oracle.freeOf(text), new int[3], Oracle.ropesOf(text)));
        for (int i = 0; i < 40; i++) {
            due("winch", desk.winch(turn[0], turn[1]), oracle.byHand(1, turn[0], turn[1], 0, true));
            causes();
            askAll();
            ask();
        }
        SEEN[4] += oracle.status[4];
    }

    private void goSteps(String[] round) {
        due("text", Check.tell(desk, 0, round[0]), oracle.tellMooring(Oracle.freeOf(round[0]), new int[3], Oracle.ropesOf(round[0])));
        for (int i = 1; i < round.length; i++) {
            int[] parts = new int[3];
            String[] told = round[i].substring(1).split("[,:]");
            for (int j = 0; j < told.length; j++) {
                parts[j] = Integer.parseInt(told[j]);
            }
            int sort = "whcn".indexOf(round[i].charAt(0));
            due(round[i], Rounds.act(desk, round[i]), oracle.byHand(sort, parts[0], parts[1], parts[2], true));
            causes();
        }
        due("round for ever", oracle.status[4], round.length > 1 ? 1 : 0);
        askAll();
    }

    private void goRare(String text) {
        due("text " + text, Check.tell(desk, 0, text), oracle.tellMooring(Oracle.freeOf(text), new int[3], Oracle.ropesOf(text)));
        for (int axis = 0; axis < 3; axis++) {
            due("range up " + axis, desk.range(axis, true), oracle.range(axis, true));
            due("range down " + axis, desk.range(axis, false), oracle.range(axis, false));
        }
        due("wind", desk.wind(37, 0, 0), oracle.byHand(0, 37, 0, 0, true));
        askAll();
    }

    private void due(String what, long got, long want) {
        Check.due("run " + run + ": " + what + " [" + oracle + "]", got, want);
    }

    private int in(int least, int most) {
        return least + random.nextInt(most - least + 1);
    }

    // ---- texts ----

    private void tellMooring() {
        int[] wind = {0, 0, 0};
        StringBuilder text = new StringBuilder();
        int free = random.nextInt(3) == 0 ? in(1, 7) : new int[] {1, 3, 7}[random.nextInt(3)];
        text.append("sf").append(free);
        if (random.nextBoolean()) {
            wind = new int[] {in(-20, 20), in(-20, 20), in(-99, 99)};
            text.append('u').append(wind[0]).append('v').append(wind[1]).append('w').append(wind[2]);
        }
        List<Oracle.Rope> ropes = new ArrayList<>();
        int count = in(1, 8);
        for (int i = 0; i < count; i++) {
            Oracle.Rope o = drawRope();
            if (style >= 2 && i % 2 == 1) {
                // Ropes against each other hold a ship more often than drawn ones.
                Oracle.Rope l = ropes.get(i - 1);
                o = new Oracle.Rope(o.k(), o.x(), o.y(), -l.a(), -l.b(), o.p(), o.t());
            }
            ropes.add(o);
            text.append(";rk").append(o.k()).append('x').append(o.x()).append('y').append(o.y()).append('a').append(o.a());
            text.append('b').append(o.b()).append('p').append(o.p()).append('t').append(o.t());
        }
        if (text.length() > 240) {
            return;
        }
        Check.tape(desk, text.toString());
        due("fault of " + text, desk.fault(0), -1);
        due("text " + text, desk.text(0), oracle.tellMooring(free, wind, ropes));
    }

    private Oracle.Rope drawRope() {
        int a;
        int b;
        do {
            a = in(-4, 4);
            b = in(-4, 4);
        } while (a == 0 && b == 0);
        int p = style == 0 ? in(-50, 50) : style == 1 ? in(-3, 3) : in(0, 50);
        int t = style <= 2 ? in(100, 999) : style == 3 ? in(1, 60) : style == 4 ? in(20, 120) : 999;
        return new Oracle.Rope(in(1, 9), in(-4, 4), in(-4, 4), a, b, p, t);
    }

    private void tellScript() {
        int n = in(1, 5);
        int[][] steps = new int[n][];
        StringBuilder text = new StringBuilder();
        for (int i = 0; i < n; i++) {
            int[] s = drawAct();
            steps[i] = s;
            text.append(i > 0 ? ";" : "");
            if (s[0] == 0) {
                text.append('w').append(s[1]).append(',').append(s[2]).append(',').append(s[3]);
            } else if (s[0] == 1) {
                text.append('h').append(s[1]).append(':').append(s[2]);
            } else {
                text.append(s[0] == 2 ? 'c' : 'n').append(s[1]);
            }
        }
        Check.tape(desk, text.toString());
        due("script " + text, desk.text(1), oracle.tellScript(steps));
        desk.end(0);
    }

    private int[] drawAct() {
        int sort = new int[] {0, 0, 0, 1, 1, 1, 2, 3}[random.nextInt(8)];
        if (sort == 0) {
            return new int[] {0, in(-15, 15), in(-15, 15), in(-60, 60)};
        }
        int rope = random.nextInt(12) == 0 ? in(0, 9) : random.nextInt(Math.max(1, oracle.ropes.size()));
        return new int[] {sort, rope, sort == 1 ? in(-9, 9) : 0, 0};
    }

    // ---- acts ----

    private void act() {
        int d = random.nextInt(20);
        if (d == 0) {
            int n = in(-1, 41);
            long seed = random.nextLong();
            due("years " + n + " " + seed, desk.years(n, seed), oracle.years(n, seed));
        } else if (d == 1) {
            int script = in(-1, 4);
            due("perform " + script, desk.perform(script), oracle.perform(script));
            causes();
        } else {
            int[] s = drawAct();
            if (random.nextInt(20) == 0) {
                s = new int[] {0, in(-101, 101), in(-101, 101), in(-1001, 1001)};
            } else if (random.nextInt(20) == 0) {
                s = new int[] {1, in(-1, 8), in(-11, 11), 0};
            }
            int got = s[0] == 0 ? desk.wind(s[1], s[2], s[3]) : s[0] == 1 ? desk.winch(s[1], s[2])
                : s[0] == 2 ? desk.cast(s[1]) : desk.renew(s[1]);
            due("act " + Arrays.toString(s), got, oracle.byHand(s[0], s[1], s[2], s[3], true));
            causes();
        }
    }

    private void causes() {
        for (int i = 0; i <= 5; i++) {
            due("cause " + i, desk.cause(i), oracle.cause(i));
            due("status " + i, desk.status(i), oracle.status(i));
        }
    }

    // ---- questions ----

    private int rope(int r, int what) {
        try {
            return desk.rope(r, what);
        } catch (NoSuchElementException e) {
            return Oracle.HIDDEN - 1;
        }
    }

    private void askAll() {
        causes();
        for (int r = -1; r <= 8; r++) {
            for (int what = -1; what <= 9; what++) {
                due("rope " + r + " " + what, rope(r, what), oracle.rope(r, what));
            }
        }
        for (int what = -1; what <= 9; what++) {
            due("most " + what, desk.most(what), oracle.most(what));
            due("rule " + what, desk.rule(what), oracle.rule(what));
            due("count " + what, desk.count(what), oracle.count(what));
        }
        for (int i = -1; i <= 61; i++) {
            for (int what = -1; what <= 3; what++) {
                due("log " + i + " " + what, desk.log(i, what), oracle.log(i, what));
            }
        }
    }

    private void ask() {
        int r = random.nextInt(Math.max(1, oracle.ropes.size()));
        int what = random.nextInt(15) == 0 ? in(-1, 4) : in(0, 1);
        int axis = random.nextInt(15) == 0 ? in(-1, 3) : in(0, 2);
        int far = random.nextInt(3) == 0 ? 30 : 6;
        int a = in(-far, far);
        int b = in(-far, far);
        int c = in(-4 * far, 4 * far);
        switch (random.nextInt(18)) {
            case 0:
                due("pull " + r, desk.pull(r, what), oracle.pull(r, what));
                break;
            case 1:
                due("shift " + axis, desk.shift(axis, what), oracle.shift(axis, what));
                break;
            case 2:
                due("held " + axis, desk.held(axis, what), oracle.held(axis, what));
                break;
            case 3:
                due("load " + r, desk.load(r, what), oracle.load(r, what));
                break;
            case 4:
                due("worst", desk.worst(), oracle.worst());
                due("uneven " + what, desk.uneven(what), oracle.uneven(what));
                break;
            case 5:
                int script = in(-1, 4);
                due("run " + script, desk.run(script, what), oracle.run(script, what));
                break;
            case 6:
                due("stand", desk.stand(a, b, c, what), oracle.stand(a, b, c, what));
                break;
            case 7:
                int i = in(0, 2);
                due("fall " + i, desk.fall(a, b, c, i, what), oracle.fall(a, b, c, i, what));
                break;
            case 8:
                due("ease " + r, desk.ease(r), oracle.ease(r));
                break;
            case 9:
                boolean isUp = random.nextBoolean();
                due("range " + axis + isUp, desk.range(axis, isUp), oracle.range(axis, isUp));
                break;
            case 10:
                int other = in(-1, 8);
                due("accord " + r + " " + other, desk.accord(r, other), oracle.accord(r, other));
                break;
            case 11:
                int n = in(1, 3);
                for (int t = -1; t <= 4; t++) {
                    due("trim " + n + " " + t, desk.trim(n, t), oracle.trim(n, t));
                }
                break;
            case 12:
                due("fewest " + what, desk.fewest(what), oracle.fewest(what));
                break;
            case 13:
                due("without " + r + " " + what, desk.without(r, what), oracle.without(r, what));
                break;
            case 14:
                due("key", desk.key(), oracle.key());
                break;
            case 15:
                int chance = in(-1, 101);
                int times = in(1, 6);
                due("odds " + chance + " " + times, desk.odds(chance, a, b, c, times), oracle.odds(chance, a, b, c, times));
                break;
            case 16:
                int share = in(-1, 1000);
                due("shares " + r + " " + share, desk.shares(r, share), oracle.shares(r, share));
                break;
            default:
                askAll();
        }
    }
}
