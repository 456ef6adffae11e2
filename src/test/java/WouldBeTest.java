/** Promises 22, 24 to 27 and 30 to 34: what would be, apart from how it stands. */
public final class WouldBeTest {
    private static final int HIDDEN = MooringDesk.HIDDEN;

    private WouldBeTest() {
    }

    public static void main(String[] args) {
        run();
        stand();
        standBounds();
        fall();
        ease();
        range();
        trim();
        fewest();
        withoutAndKey();
        odds();
        nothingChanges();
        Check.finish("WouldBeTest");
    }

    private static void run() {
        MooringDesk desk = Check.moored("sf1;rp5;ra-1p5;ra-1t1");
        Check.tell(desk, 1, "w6,0,0;n2;w5,0,0;c2;w1,0,0");
        // Rope 2 breaks by the first; rope 0 is slack behind the third (11), and rope 2 can't be cast off.
        Check.due("behind how many", desk.run(0, 0), 3);
        Check.due("taut behind these", desk.run(0, 1), 1);
        Check.tell(desk, 1, "c2;w1,0,0");
        Check.due("all can be", desk.run(1, 0), -1);
        Check.due("taut behind all", desk.run(1, 1), 2);
        Check.tell(desk, 1, "c9");
        Check.due("the first can't be", desk.run(2, 0), 0);
        Check.due("taut as now", desk.run(2, 1), 3);
        Check.due("no such script", desk.run(3, 0), HIDDEN);
        Check.due("no such script", desk.run(-1, 0), HIDDEN);
        Check.due("no such what", desk.run(0, 2), HIDDEN);
        Check.due("no such what", desk.run(0, -1), HIDDEN);
        MooringDesk none = new MooringDesk();
        Check.tell(none, 1, "c0");
        Check.due("no mooring", none.run(0, 0), HIDDEN);
    }

    /** A third of the wind for each of ropes 1 to 3. */
    private static MooringDesk three() {
        return Check.moored("sf1;r;ra-1t5;ra-1t7;ra-1t200");
    }

    private static void stand() {
        MooringDesk desk = three();
        Check.due("15 can be", desk.stand(3, 0, 0, 0), 5);
        Check.due("by 18 rope 1 breaks first", desk.stand(3, 0, 0, 1), 1);
        Check.due("not one", desk.stand(16, 0, 0, 0), 0);
        Check.due("by 16", desk.stand(16, 0, 0, 1), 1);
        Check.due("sixty at most", desk.stand(0, 1, 0, 0), 60);
        Check.due("none", desk.stand(0, 1, 0, 1), -1);
        Check.due("999 across", desk.stand(0, 20, 0, 0), 49);
        Check.due("it can't be", desk.stand(0, 20, 0, 1), -1);
        Check.due("against all of them", desk.stand(-3, 0, 0, 0), 60);
        desk.wind(18, 0, 0);
        Check.due("rope 3 alone, 198 and no more", desk.stand(90, 0, 0, 0), 2);
        Check.due("adrift by the next", desk.stand(90, 0, 0, 1), -1);
    }

    private static void standBounds() {
        MooringDesk desk = three();
        int[][] wrong = {{0, 0, 0}, {100, 0, 0}, {-100, 0, 0}, {0, 100, 0}, {0, -100, 0}, {0, 0, 1000}, {0, 0, -1000},
            {Integer.MIN_VALUE, 0, 0}, {0, 0, Integer.MAX_VALUE}};
        for (int[] w : wrong) {
            Check.due("stand", desk.stand(w[0], w[1], w[2], 0), HIDDEN);
            Check.due("fall", desk.fall(w[0], w[1], w[2], 0, 0), HIDDEN);
            Check.due("odds", desk.odds(50, w[0], w[1], w[2], 1), -1);
        }
        Check.due("as far as it goes", desk.stand(-99, 99, -999, 0), 10);
        Check.due("no such what", desk.stand(1, 0, 0, 2), HIDDEN);
        Check.due("no such what", desk.stand(1, 0, 0, -1), HIDDEN);
        Check.due("no such what", desk.fall(3, 0, 0, 0, 2), HIDDEN);
        Check.due("no such what", desk.fall(3, 0, 0, 0, -1), HIDDEN);
        Check.due("no such one", desk.fall(3, 0, 0, -1, 0), HIDDEN);
        Check.due("no such one", desk.fall(3, 0, 0, Integer.MAX_VALUE, 0), HIDDEN);
    }

    private static void fall() {
        MooringDesk desk = three();
        Check.due("first rope 1", desk.fall(3, 0, 0, 0, 0), 1);
        Check.due("by the sixth", desk.fall(3, 0, 0, 0, 1), 6);
        Check.due("then rope 2", desk.fall(3, 0, 0, 1, 0), 2);
        Check.due("by the sixth", desk.fall(3, 0, 0, 1, 1), 6);
        Check.due("no more", desk.fall(3, 0, 0, 2, 0), HIDDEN);
        Check.due("what can't be breaks none", desk.fall(6, 0, 0, 2, 0), HIDDEN);
        Check.due("nor does that by which all would break", desk.fall(99, 0, 0, 0, 0), 1);
        Check.due("by the first", desk.fall(99, 0, 0, 1, 1), 1);
        Check.due("none by the third", desk.fall(99, 0, 0, 2, 1), HIDDEN);
        MooringDesk other = Check.moored("sf1;r;ra-1t5;ra-1t70");
        // Half of it each: rope 1 breaks by 11; with 1 a time that is the 11th, and rope 2 would stand 70.
        Check.due("by the 11th", other.fall(1, 0, 0, 0, 1), 11);
        Check.due("sixty times at most", other.fall(1, 0, 0, 1, 1), HIDDEN);
        Check.due("by the 59th", Check.moored("sf1;r;ra-1t29;ra-1").fall(1, 0, 0, 0, 1), 59);
        Check.due("not by the 61st", Check.moored("sf1;r;ra-1t30;ra-1").fall(1, 0, 0, 0, 1), HIDDEN);
        other.wind(-40, 0, 0);
        // Rope 0 alone is taut then; by the 41st it would push, and nothing is left.
        Check.due("adrift ahead of it", other.fall(1, 0, 0, 0, 1), HIDDEN);
        Check.due("forty can be", other.stand(1, 0, 0, 0), 40);
    }

    private static void ease() {
        MooringDesk desk = Check.moored("sf1;rp5;ra-1p5;rp-9");
        Check.due("5 less a half each, below 0", desk.ease(0), 11);
        Check.due("the other: both would push alike, and rope 0 is dropped", desk.ease(1), -1);
        Check.due("slack", desk.ease(2), 0);
        Check.due("no such rope", desk.ease(3), -1);
        Check.due("no such rope", desk.ease(-1), -1);
        desk.cast(2);
        Check.due("cast off", desk.ease(2), -1);
        MooringDesk holds = Check.moored("sf1u5;ra-1;r");
        Check.due("never slack", holds.ease(0), -1);
        Check.due("14 turns", Check.moored("sf1u8;ra-1p5;ra-1;r").ease(0), 14);
        Check.due("rope 1 breaks ahead of that", Check.moored("sf1u8;ra-1p5;ra-1t6;r").ease(0), -1);
        // The 60th turn is the last: the pull is (35 + p) by 2, that of the 61st would be below 0 the same way.
        Check.due("60 turns", Check.moored("sf1;rp24;ra-1p35").ease(0), 60);
        Check.due("61 turns are none", Check.moored("sf1;rp25;ra-1p35").ease(0), -1);
        Check.due("broken", broken().ease(1), -1);
    }

    private static MooringDesk broken() {
        MooringDesk desk = three();
        desk.wind(18, 0, 0);
        return desk;
    }

    private static void range() {
        MooringDesk desk = three();
        // At 0 all are taut without a pull: up rope 0 is dropped, down the others.
        Check.due("up", desk.range(0, true), 0);
        Check.due("down", desk.range(0, false), 0);
        Check.due("across is not free", desk.range(1, true), 60);
        desk.wind(1, 0, 0);
        Check.due("up to 15", desk.range(0, true), 14);
        Check.due("down to 0, where no pull is above 0", desk.range(0, false), 1);
        for (int i = 0; i < 10; i++) {
            desk.wind(0, 96, 0);
        }
        Check.due("999 across", desk.range(1, true), 39);
        Check.due("down", desk.range(1, false), 60);
        Check.due("round", desk.range(2, false), 60);
        Check.due("by the ninth a slack rope is taken and breaks, the taut ones stay",
            Check.moored("sf3;rk3p34;rk8p47t1;rk3a0b2p-14t51;rk7a-2b1p-32t20").range(1, false), 8);
        Check.due("no such axis", desk.range(3, true), -1);
        Check.due("no such axis", desk.range(-1, true), -1);
    }

    private static void trim(MooringDesk desk, int n, int rope, int turn, int up, int low) {
        Check.due("trim " + n + " rope", desk.trim(n, 0), rope);
        Check.due("trim " + n + " turn", desk.trim(n, 1), turn);
        Check.due("trim " + n + " above", desk.trim(n, 2), up);
        Check.due("trim " + n + " below", desk.trim(n, 3), low);
    }

    private static void trim() {
        MooringDesk desk = Check.moored("sf1;rp5t10;ra-1p5t10");
        trim(desk, 1, 0, -1, 9, 20);
        trim(desk, 2, 0, -2, 2, 5);
        trim(desk, 3, 0, -3, 7, 20);
        Check.due("no such what", desk.trim(1, 4), HIDDEN);
        Check.due("no such what", desk.trim(1, -1), HIDDEN);
        Check.due("n", desk.trim(0, 0), HIDDEN);
        Check.due("n", desk.trim(4, 0), HIDDEN);
        // All turns leave the one pull as it is: the lowest rope, the least turn.
        trim(Check.moored("sf1u5;ra-1;r"), 3, 0, -3, 5, 999);
        // Rope 0 is cast off: it has no turns.
        MooringDesk cast = Check.moored("sf1u5;ra-1;ra-1;r");
        cast.cast(0);
        trim(cast, 2, 1, -2, 5, 999);
        // 10 of 10 is borne by each of two as stiff; any turn of either takes one of them above it,
        // and so breaks it; the third one, slack, has turns that change nothing.
        MooringDesk full = Check.moored("sf1u20;ra-1t10;ra-1t10;rp-50");
        trim(full, 3, 2, -3, 1, 1);
        full.cast(2);
        trim(full, 3, -1, 0, 0, 1);
    }

    private static void fewest(MooringDesk desk, int size, int bits) {
        Check.due("fewest", desk.fewest(0), size);
        Check.due("who", desk.fewest(1), bits);
    }

    private static void fewest() {
        fewest(Check.moored("sf1;rp5;ra-1p5"), 1, 1);
        fewest(Check.moored("sf1u3;rp5;ra-1p5"), 1, 2);
        fewest(Check.moored("sf1u3;ra-1t2;ra-1t2;r"), 2, 3);
        fewest(Check.moored("sf1u3;ra-1t2;r;ra-1t1;ra-1t2"), 2, 9);
        fewest(Check.moored("s;rp1;ra0b1p1;ra-1p1"), 2, 3);
        MooringDesk desk = Check.moored("sf1u3;ra-1t2;ra-1t2;ra-1t2;r");
        desk.cast(0);
        fewest(desk, 2, 6);
        Check.due("no such what", desk.fewest(2), -1);
        Check.due("no such what", desk.fewest(-1), -1);
        // All are taut at first: rope 1, slack now, is in the set and holds rope 0 at 2 of 2.
        MooringDesk slack = Check.moored("sf1u2;ra-1t2;rp-5");
        fewest(slack, 1, 1);
    }

    private static void withoutAndKey() {
        MooringDesk desk = Check.moored("sf1u5;ra-1t2;ra-1t2;ra-1t9;r");
        Check.due("rope 1 breaks", desk.without(0, 1), 2);
        Check.due("rope 2 holds", desk.without(0, 0), 4);
        Check.due("rope 0 breaks", desk.without(1, 1), 1);
        Check.due("can't be", desk.without(2, 0), -1);
        Check.due("can't be", desk.without(2, 1), -1);
        Check.due("a slack one", desk.without(3, 0), 7);
        Check.due("none breaks", desk.without(3, 1), 0);
        Check.due("no such what", desk.without(0, 2), -1);
        Check.due("no such what", desk.without(0, -1), -1);
        Check.due("no such rope", desk.without(4, 0), -1);
        Check.due("no such rope", desk.without(-1, 0), -1);
        Check.due("key", desk.key(), 2);
        Check.due("most break", Check.moored("sf1u15;r;ra-1t1;ra-1t1;ra-1k9t99;ra-1k9t99").key(), 3);
        Check.due("who can't is worse", Check.moored("sf1u7;r;ra-1t2;ra-1t2;ra-1t2;ra-1t9").key(), 4);
        Check.due("all alike", Check.moored("sf1;rp1;ra-1p1").key(), 0);
        desk.cast(0);
        Check.due("cast off", desk.without(0, 0), -1);
        // Rope 1 broke by that; without rope 2 it can't be.
        Check.due("broken", desk.without(1, 0), -1);
        Check.due("key", desk.key(), 2);
        MooringDesk slack = Check.moored("sf1u5;r;ra-1");
        Check.due("the slack one is lower, but not needed", slack.key(), 1);
    }

    private static void odds() {
        MooringDesk desk = Check.moored("sf1;r;ra-1t9");
        // One gust of 5 can be, two can't.
        Check.due("one of three at most", desk.odds(30, 5, 0, 0, 3), 784000000);
        Check.due("none comes", desk.odds(0, 10, 0, 0, 6), 1000000000);
        Check.due("all come", desk.odds(100, 5, 0, 0, 2), 0);
        Check.due("one comes", desk.odds(100, 5, 0, 0, 1), 1000000000);
        // 1 less 33 hundredths, cut, six times over.
        Check.due("cut", desk.odds(33, 10, 0, 0, 6), 90458383);
        // What comes first or last is cut unlike; all ways together are whole.
        Check.due("all can be", desk.odds(33, 1, 0, 0, 6), 1000000000);
        Check.due("breaking counts, too", three().odds(50, 18, 0, 0, 1), 500000000);
        Check.due("chance", desk.odds(101, 1, 0, 0, 1), -1);
        Check.due("chance", desk.odds(-1, 1, 0, 0, 1), -1);
        Check.due("n", desk.odds(50, 1, 0, 0, 0), -1);
        Check.due("n", desk.odds(50, 1, 0, 0, 7), -1);
    }

    private static void nothingChanges() {
        MooringDesk desk = three();
        desk.wind(6, 0, 0);
        Check.tell(desk, 1, "w1,0,0;c1;n1");
        int tries = desk.rule(4);
        desk.run(0, 0);
        desk.stand(3, 0, 0, 0);
        desk.fall(3, 0, 0, 0, 0);
        desk.ease(1);
        desk.range(0, true);
        desk.trim(3, 0);
        desk.fewest(0);
        desk.without(3, 0);
        desk.key();
        desk.odds(50, 3, 0, 0, 6);
        Check.due("wind", desk.rule(1), 6);
        Check.due("tries", desk.rule(4), tries);
        Check.due("taut", desk.most(0), 14);
        Check.due("slack", desk.most(1), 1);
        Check.due("p", desk.rope(1, 7), 0);
        Check.due("pull", desk.pull(1, 0), 2);
        Check.due("pull", desk.pull(1, 1), 1);
        Check.due("acts", desk.count(4), 1);
        Check.due("log", desk.count(3), 1);
        Check.due("broke", desk.most(7), 0);
        for (int what = 0; what <= 4; what++) {
            Check.due("status", desk.status(what), 0);
        }
        Check.due("cause", desk.cause(0), -1);
    }
}
