/** Promises 6 to 12, 28, 29, 35, 37 and 40, sentence by sentence: how it stands. */
final class HoldPromises {
    private static final int HIDDEN = MooringDesk.HIDDEN;

    private HoldPromises() {
    }

    static void all() {
        rule();
        rope();
        pull();
        shift();
        held();
        load();
        worst();
        uneven();
        accord();
        shares();
        mostBits();
        mostPulls();
        mostBroke();
        mostAccord();
        count();
    }

    private static MooringDesk none() {
        return new MooringDesk();
    }

    /** Rope 0 taut, 1 slack, 2 broken, 3 cast off. */
    private static MooringDesk four() {
        MooringDesk desk = Check.moored("sf1u5v3w4;ra-1;r;ra-1t1;ra-1");
        desk.cast(3);
        return desk;
    }

    private static void rule() {
        Doc.says(6, "0 FREE, 1 to 3 WIND as now, 4 TRIES when it SETTLED latest.");
        MooringDesk desk = Check.moored("sf1u9v-8w7;rp3;rp5;ra-1");
        int[] want = {1, 9, -8, 7, 3};
        for (int what = 0; what <= 4; what++) {
            Doc.due("what " + what, desk.rule(what), want[what]);
        }
        desk.wind(1, 2, 3);
        int[] then = {1, 10, -6, 10, 1};
        for (int what = 0; what <= 4; what++) {
            Doc.due("what " + what, desk.rule(what), then[what]);
        }
        desk.cast(2);
        Doc.due("what is refused did not settle", desk.rule(4), 1);
        desk.fewest(0);
        desk.key();
        Doc.due("what would be did not, either", desk.rule(4), 1);
        desk.undo();
        Doc.due("undone", desk.rule(4), 3);
        Doc.says(6, "HIDDEN: no MOORING, no such what.");
        for (int what = 0; what <= 4; what++) {
            Doc.due("no mooring", none().rule(what), HIDDEN);
        }
        for (int what : Wrong.of(0, 4)) {
            Doc.due("what " + what, desk.rule(what), HIDDEN);
        }
    }

    private static void rope() {
        Doc.says(7, "Of a ROPE: 0 STIFFNESS, 1 x, 2 y, 3 a, 4 b, 5 ARM, 6 STRENGTH, 7 p as now, 8 what it is (0 .. 3).");
        MooringDesk desk = Check.moored("sf1u-9;rk5x-1y2a3b-4p6t70;rp1");
        int[] want = {5, -1, 2, 3, -4, -2, 70, 6, 0};
        int[] untold = {1, 0, 0, 1, 0, 0, 999, 1, 0};
        for (int what = 0; what <= 8; what++) {
            Doc.due("what " + what, desk.rope(0, what), want[what]);
            Doc.due("untold " + what, desk.rope(1, what), what == 8 ? desk.rope(1, 8) : untold[what]);
        }
        desk.winch(0, 2);
        Doc.due("p as now", desk.rope(0, 7), 16);
        MooringDesk four = four();
        for (int rope = 0; rope <= 3; rope++) {
            Doc.due("what it is", four.rope(rope, 8), rope);
            Doc.due("its stiffness is known still", four.rope(rope, 0), 1);
        }
        Doc.says(7, "NoSuchElementException: no such ones.");
        for (int rope : Wrong.of(0, 3)) {
            Check.noSuch("rope " + rope, four, rope, 0);
        }
        for (int what : Wrong.of(0, 8)) {
            Check.noSuch("what " + what, four, 0, what);
        }
        for (int what = 0; what <= 8; what++) {
            Check.noSuch("no mooring", none(), 0, what);
        }
        MooringDesk less = Check.moored("sf1;r;r;r;r;r;r;r;r");
        Check.tell(less, 0, "sf1;r");
        Check.noSuch("of the mooring that is gone", less, 1, 0);
    }

    private static void pull() {
        Doc.says(8, "PULL of a ROPE (of a SLACK one, too) as it is now: the upper number (0), the lower one (1).");
        MooringDesk desk = Check.moored("sf1u5;ra-1k2;r");
        Doc.due("taut", desk.pull(0, 0), 5);
        Doc.due("taut", desk.pull(0, 1), 1);
        Doc.due("slack", desk.pull(1, 0), -5);
        Doc.due("slack", desk.pull(1, 1), 2);
        desk.wind(-5, 0, 0);
        Doc.due("slack by 0", desk.pull(1, 0), 0);
        Doc.due("slack by 0", desk.pull(1, 1), 1);
        Doc.says(8, "HIDDEN: no such ones, BROKEN, CAST OFF.");
        MooringDesk four = four();
        for (int what = 0; what <= 1; what++) {
            Doc.due("broken", four.pull(2, what), HIDDEN);
            Doc.due("cast off", four.pull(3, what), HIDDEN);
            Doc.due("no mooring", none().pull(0, what), HIDDEN);
            for (int rope : Wrong.of(0, 3)) {
                Doc.due("rope " + rope, four.pull(rope, what), HIDDEN);
            }
        }
        for (int what : Wrong.of(0, 1)) {
            Doc.due("what " + what, four.pull(0, what), HIDDEN);
        }
    }

    private static void shift() {
        Doc.says(9, "A part of the SHIFT (axis 0 along, 1 across, 2 round): the upper number (0), the lower one (1).");
        MooringDesk desk = Check.moored("sf7u6v5w4;ry1p20;ry-1p20;ra-1y1p20;ra-1y-1p20;rb1a0p5;ra0b-1p5");
        int[][] want = {{3, 2}, {5, 2}, {1, 1}};
        for (int axis = 0; axis <= 2; axis++) {
            Doc.due("axis " + axis, desk.shift(axis, 0), want[axis][0]);
            Doc.due("axis " + axis, desk.shift(axis, 1), want[axis][1]);
        }
        Doc.says(9, "HIDDEN: no MOORING, no such ones.");
        for (int what = 0; what <= 1; what++) {
            for (int axis = 0; axis <= 2; axis++) {
                Doc.due("no mooring", none().shift(axis, what), HIDDEN);
            }
            for (int axis : Wrong.of(0, 2)) {
                Doc.due("axis " + axis, desk.shift(axis, what), HIDDEN);
            }
        }
        for (int what : Wrong.of(0, 1)) {
            Doc.due("what " + what, desk.shift(0, what), HIDDEN);
        }
    }

    private static void held() {
        Doc.says(10, "HELD on an axis: the upper number (0), the lower one (1) (0 by 1 on a FREE one).");
        MooringDesk desk = Check.moored("sf1u1v-9w6;ra2b3;ra-2b3");
        int[][] want = {{0, 1}, {-15, 2}, {6, 1}};
        for (int axis = 0; axis <= 2; axis++) {
            Doc.due("axis " + axis, desk.held(axis, 0), want[axis][0]);
            Doc.due("axis " + axis, desk.held(axis, 1), want[axis][1]);
        }
        MooringDesk free = Check.moored("sf7u6v5w4;ry1p20;ry-1p20;ra-1y1p20;ra-1y-1p20;rb1a0p5;ra0b-1p5");
        for (int axis = 0; axis <= 2; axis++) {
            Doc.due("free", free.held(axis, 0), 0);
            Doc.due("free", free.held(axis, 1), 1);
        }
        Doc.says(10, "HIDDEN: no MOORING, no such ones.");
        for (int what = 0; what <= 1; what++) {
            for (int axis = 0; axis <= 2; axis++) {
                Doc.due("no mooring", none().held(axis, what), HIDDEN);
            }
            for (int axis : Wrong.of(0, 2)) {
                Doc.due("axis " + axis, desk.held(axis, what), HIDDEN);
            }
        }
        for (int what : Wrong.of(0, 1)) {
            Doc.due("what " + what, desk.held(0, what), HIDDEN);
            Doc.due("what " + what, desk.held(1, what), HIDDEN);
        }
    }

    private static void load() {
        Doc.says(11, "LOAD of a TAUT ROPE: the upper number (0), the lower one (1).");
        MooringDesk desk = Check.moored("sf1u9;r;ra-1t9;ra-1t6");
        Doc.due("3 by 4", desk.load(2, 0), 3);
        Doc.due("3 by 4", desk.load(2, 1), 4);
        Doc.says(11, "HIDDEN: no such ones, it is not TAUT.");
        MooringDesk four = four();
        for (int what = 0; what <= 1; what++) {
            for (int rope = 1; rope <= 3; rope++) {
                Doc.due("not taut " + rope, four.load(rope, what), HIDDEN);
            }
            for (int rope : Wrong.of(0, 3)) {
                Doc.due("rope " + rope, four.load(rope, what), HIDDEN);
            }
            Doc.due("no mooring", none().load(0, what), HIDDEN);
        }
        for (int what : Wrong.of(0, 1)) {
            Doc.due("what " + what, four.load(0, what), HIDDEN);
        }
    }

    private static void worst() {
        Doc.says(12, "The TAUT ROPE with the greatest LOAD (of several the lowest).");
        Doc.due("by load", Check.moored("sf1u9;r;ra-1t9;ra-1t6").worst(), 2);
        Doc.due("by load, not by pull", Check.moored("sf1u30;r;ra-1k9t900;ra-1t6").worst(), 2);
        Doc.due("of both the lowest", Check.moored("sf1u9;r;ra-1t6;ra-1t6").worst(), 1);
        Doc.due("1 by 2 and 2 by 4", Check.moored("sf1u3;r;ra-1k2t4;ra-1t2").worst(), 1);
        Doc.due("just greater: 3 by 4 and 5 by 6", Check.moored("sf1u1;rp2t2;ra-1p2t3").worst(), 1);
        Doc.due("just less: 5 by 6 and 3 by 4", Check.moored("sf1u-1;rp2t3;ra-1p2t2").worst(), 0);
        Doc.due("one alone", Check.moored("sf1u3;r;r;ra-1").worst(), 2);
        Doc.due("all by 0", Check.moored("sf1;r;ra-1t2").worst(), 0);
        Doc.says(12, "NONE: no MOORING.");
        Doc.due("none", none().worst(), -1);
    }

    private static void uneven() {
        Doc.says(28, "UNEVEN: the upper number (0), the lower one (1).");
        MooringDesk desk = Check.moored("sf1u9;r;ra-1t9;ra-1t6");
        Doc.due("1 by 4", desk.uneven(0), 1);
        Doc.due("1 by 4", desk.uneven(1), 4);
        desk = Check.moored("sf1u9;r;ra-1t6;ra-1t9;ra-1t6");
        Doc.due("the least is not the lowest", desk.uneven(0), 1);
        Doc.due("the least is not the lowest", desk.uneven(1), 6);
        Doc.says(28, "HIDDEN: no MOORING, no such what.");
        Doc.due("no mooring", none().uneven(0), HIDDEN);
        Doc.due("no mooring", none().uneven(1), HIDDEN);
        for (int what : Wrong.of(0, 1)) {
            Doc.due("what " + what, desk.uneven(what), HIDDEN);
        }
    }

    private static void accord() {
        Doc.says(29, "ACCORD.");
        MooringDesk four = four();
        Doc.due("against each other", four.accord(0, 1), -1);
        Doc.due("broken and cast off", four.accord(2, 3), 1);
        Doc.says(29, "HIDDEN: no such ones.");
        for (int rope : Wrong.of(0, 3)) {
            Doc.due("one " + rope, four.accord(rope, 0), HIDDEN);
            Doc.due("other " + rope, four.accord(0, rope), HIDDEN);
        }
        Doc.due("no mooring", none().accord(0, 0), HIDDEN);
    }

    private static void shares() {
        Doc.says(35, "SHARES.");
        MooringDesk four = four();
        Doc.due("all of it", four.shares(0, 999), 999);
        Doc.due("none of it", four.shares(0, 0), 0);
        Doc.says(35, "NONE: no such ROPE, not TAUT, out of bounds.");
        for (int rope : Wrong.of(0, 3)) {
            Doc.due("rope " + rope, four.shares(rope, 5), -1);
        }
        for (int rope = 1; rope <= 3; rope++) {
            Doc.due("not taut " + rope, four.shares(rope, 5), -1);
        }
        for (int c : Wrong.of(0, 999)) {
            Doc.due("c " + c, four.shares(0, c), -1);
        }
        Doc.due("no mooring", none().shares(0, 0), -1);
    }

    private static void mostBits() {
        Doc.says(37, "TAUT (0), SLACK (1), BROKEN (2), CAST OFF ones (3) (bits);");
        MooringDesk four = four();
        for (int what = 0; what <= 3; what++) {
            Doc.due("what " + what, four.most(what), 1 << what);
        }
        MooringDesk eight = Check.moored("sf1;r;r;r;r;r;r;r;r");
        Doc.due("all eight", eight.most(0), 255);
        for (int what = 1; what <= 3; what++) {
            Doc.due("none", eight.most(what), 0);
        }
        Doc.says(37, "HIDDEN: no MOORING, no such what.");
        for (int what = 0; what <= 8; what++) {
            Doc.due("no mooring", none().most(what), HIDDEN);
        }
        for (int what : Wrong.of(0, 8)) {
            Doc.due("what " + what, four.most(what), HIDDEN);
        }
    }

    private static void mostPulls() {
        Doc.says(37, "the ROPE with the greatest PULL of TAUT ones (4), with the least (5) (of several the lowest);");
        MooringDesk desk = Check.moored("sf1u9;rp-9;ra-1k2t9;ra-1k3t99;ra-1;r");
        Doc.due("greatest", desk.most(4), 2);
        Doc.due("least, not of slack ones", desk.most(5), 3);
        MooringDesk alike = Check.moored("sf1u9;r;ra-1;ra-1;ra-1k3;ra-1k3");
        Doc.due("greatest of several", alike.most(4), 3);
        Doc.due("least of several", alike.most(5), 1);
        Doc.says(37, "STIFFNESS of all TAUT ones (6),");
        Doc.due("2, 3 and 1", desk.most(6), 6);
        Doc.due("of taut ones alone", four().most(6), 1);
        Doc.due("eight of 9", Check.moored("sf1;rk9;rk9;rk9;rk9;rk9;rk9;rk9;rk9").most(6), 72);
    }

    private static void mostBroke() {
        Doc.says(37, "ROPES that ever BROKE by ACTS that stand (7, how many times, of this MOORING, as it was told, too),");
        MooringDesk desk = Check.moored("sf1u5;ra-1;r;ra-1t1;ra-1t5");
        Doc.due("as it was told", desk.most(7), 1);
        desk.renew(2);
        Doc.due("the same rope once more", desk.most(7), 2);
        desk.wind(6, 0, 0);
        Doc.due("another", desk.most(7), 3);
        desk.wind(-5, 0, 0);
        Doc.due("none by this", desk.most(7), 3);
        desk.cast(0);
        Doc.due("what is refused breaks none", desk.most(7), 3);
        desk.undo();
        desk.undo();
        Doc.due("acts undone do not stand", desk.most(7), 2);
        desk.image();
        desk.wind(6, 0, 0);
        Doc.due("another", desk.most(7), 3);
        desk.back();
        Doc.due("as of the image", desk.most(7), 2);
        Check.tell(desk, 0, "sf1;rp5;ra-1p5");
        Doc.due("of this mooring", desk.most(7), 0);
    }

    private static void mostAccord() {
        Doc.says(37, "the two TAUT ROPES with the least ACCORD (8: 8 times the one and the other, the lesser number first; of several "
            + "the first; NONE: one alone is TAUT).");
        Doc.due("0 and 1", Check.moored("sf1;rp5;ra-1p5").most(8), 1);
        // Ways of 1, 2, -1, -3: the least is 2 by -3.
        Doc.due("1 and 3", Check.moored("sf1;rp9;ra2p9;ra-1p9;ra-3p9").most(8), 11);
        Doc.due("6 and 7", Check.moored("sf1u1;r;r;r;r;r;r;ra-1;ra-1").most(8), 55);
        Doc.due("of several the first", Check.moored("sf1;rp9;rp9;ra-1p9;ra-1p9").most(8), 2);
        MooringDesk slack = Check.moored("sf1u5;ra-1;rp-9;ra-2");
        Doc.due("of taut ones alone", slack.most(8), 2);
        Doc.due("one alone", Check.moored("sf1u5;ra-1;r").most(8), -1);
        Doc.due("one rope in all", Check.moored("sf1;r").most(8), -1);
    }

    private static void count() {
        Doc.says(40, "0 ROPES, 1 SCRIPTS, 2 bytes of the TAPE, 3 how long the LOG is, 4 ACTS that can be UNDONE.");
        MooringDesk desk = Check.moored("sf1;rp5;ra-1p5;r");
        for (int i = 0; i < 65; i++) {
            Doc.due("lines", desk.count(3), Math.min(i, 60));
            Doc.due("acts", desk.count(4), Math.min(i, 40));
            desk.wind(0, 1, 0);
        }
        Check.tell(desk, 1, "c1");
        Check.tell(desk, 1, "c1");
        Check.feed(desk, "abcd");
        int[] want = {3, 2, 4, 60, 40};
        for (int what = 0; what <= 4; what++) {
            Doc.due("what " + what, desk.count(what), want[what]);
            Doc.due("of a new object", none().count(what), 0);
        }
        desk.undo();
        Doc.due("acts", desk.count(4), 39);
        Doc.due("lines", desk.count(3), 60);
        Doc.says(40, "HIDDEN for others.");
        for (int what : Wrong.of(0, 4)) {
            Doc.due("what " + what, desk.count(what), HIDDEN);
            Doc.due("what " + what, none().count(what), HIDDEN);
        }
    }
}
