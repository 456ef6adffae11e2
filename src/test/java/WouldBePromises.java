import java.util.function.IntUnaryOperator;

/** Promises 24 to 27 and 30 to 34, sentence by sentence: what would be. */
final class WouldBePromises {
    private static final int HIDDEN = MooringDesk.HIDDEN;

    private WouldBePromises() {
    }

    static void all() {
        stand();
        fall();
        ease();
        range();
        trim();
        fewest();
        without();
        key();
        odds();
    }

    private static MooringDesk none() {
        return new MooringDesk();
    }

    /** Rope 0 taut, 1 slack, 2 broken, 3 cast off. */
    private static MooringDesk four() {
        MooringDesk desk = Check.moored("sf1u5;ra-1;r;ra-1t1;ra-1");
        desk.cast(3);
        return desk;
    }

    /** A third of the wind for each of ropes 1 to 3. */
    private static MooringDesk three() {
        return Check.moored("sf1;r;ra-1t5;ra-1t7;ra-1t200");
    }

    private static void allWrong(String what, int least, int most, int want, IntUnaryOperator call) {
        for (int n : Wrong.of(least, most)) {
            Doc.due(what + " " + n, call.applyAsInt(n), want);
        }
    }

    private static void stand() {
        Doc.says(24, "STAND: how many times (0), which ROPE (1).");
        MooringDesk desk = three();
        Doc.due("times", desk.stand(3, 0, 0, 0), 5);
        Doc.due("rope", desk.stand(3, 0, 0, 1), 1);
        Doc.says(24, "HIDDEN: no MOORING, a part out of bounds (as of WIND), all are 0, no such what.");
        for (int what = 0; what <= 1; what++) {
            int w = what;
            Doc.due("no mooring", none().stand(1, 0, 0, what), HIDDEN);
            Doc.due("all are 0", desk.stand(0, 0, 0, what), HIDDEN);
            allWrong("along", -99, 99, HIDDEN, n -> desk.stand(n, 0, 0, w));
            allWrong("across", -99, 99, HIDDEN, n -> desk.stand(0, n, 0, w));
            allWrong("round", -999, 999, HIDDEN, n -> desk.stand(0, 0, n, w));
        }
        allWrong("what", 0, 1, HIDDEN, n -> desk.stand(1, 0, 0, n));
        Doc.due("as far as it goes", desk.stand(-99, -99, -999, 0), 10);
        Doc.due("as far as it goes", desk.stand(0, 99, 999, 0), 10);
        Doc.due("one part is enough", desk.stand(0, 0, 1, 0), 60);
        // A gust within bounds that would take the wind out of them can't be, and is not hidden.
        desk.wind(0, 99, 0);
        for (int i = 0; i < 9; i++) {
            desk.wind(0, 99, 0);
        }
        Doc.due("the wind would be out of bounds", desk.stand(0, 10, 0, 0), 0);
    }

    private static void fall() {
        Doc.says(25, "FALL: of the i-th that BREAKS (0 on): which ROPE (0), behind how many times (1; the one by which it BREAKS, too).");
        MooringDesk desk = three();
        int[][] want = {{1, 6}, {2, 6}};
        for (int i = 0; i <= 1; i++) {
            Doc.due("rope " + i, desk.fall(3, 0, 0, i, 0), want[i][0]);
            Doc.due("times " + i, desk.fall(3, 0, 0, i, 1), want[i][1]);
        }
        Doc.due("by the very first", desk.fall(18, 0, 0, 0, 1), 1);
        Doc.says(25, "HIDDEN: no MOORING, as STAND, no such ones.");
        for (int what = 0; what <= 1; what++) {
            int w = what;
            Doc.due("no mooring", none().fall(3, 0, 0, 0, what), HIDDEN);
            Doc.due("all are 0", desk.fall(0, 0, 0, 0, what), HIDDEN);
            allWrong("along", -99, 99, HIDDEN, n -> desk.fall(n, 0, 0, 0, w));
            allWrong("across", -99, 99, HIDDEN, n -> desk.fall(18, n, 0, 0, w));
            allWrong("round", -999, 999, HIDDEN, n -> desk.fall(18, 0, n, 0, w));
            allWrong("i", 0, 1, HIDDEN, n -> desk.fall(3, 0, 0, n, w));
        }
        allWrong("what", 0, 1, HIDDEN, n -> desk.fall(3, 0, 0, 0, n));
        Doc.due("none breaks", desk.fall(0, 1, 0, 0, 0), HIDDEN);
    }

    private static void ease() {
        Doc.says(26, "EASE.");
        Doc.due("11", Check.moored("sf1;rp5;ra-1p5").ease(0), 11);
        Doc.says(26, "NONE: none, no such ROPE, BROKEN, CAST OFF.");
        MooringDesk four = four();
        Doc.due("none", four.ease(0), -1);
        Doc.due("broken", four.ease(2), -1);
        Doc.due("cast off", four.ease(3), -1);
        allWrong("rope", 0, 3, -1, four::ease);
        Doc.due("no mooring", none().ease(0), -1);
        Doc.says(26, "(A SLACK one: 0.)");
        Doc.due("slack", four.ease(1), 0);
    }

    private static void range() {
        Doc.says(27, "RANGE.");
        MooringDesk desk = Check.moored("sf1u1;r;ra-1t9;ra-1");
        Doc.due("up", desk.range(0, true), 17);
        Doc.due("down", desk.range(0, false), 1);
        Doc.due("across", desk.range(1, false), 60);
        Doc.due("round", desk.range(2, true), 60);
        Doc.says(27, "NONE: no MOORING, no such axis.");
        for (int axis = 0; axis <= 2; axis++) {
            Doc.due("no mooring", none().range(axis, true), -1);
            Doc.due("no mooring", none().range(axis, false), -1);
        }
        allWrong("axis", 0, 2, -1, n -> desk.range(n, true));
        allWrong("axis", 0, 2, -1, n -> desk.range(n, false));
    }

    private static void trim() {
        Doc.says(30, "TRIM: the ROPE (0; NONE: none), its turn (1; 0 for none), its greatest LOAD's upper (2), lower number (3) (0 by 1 "
            + "for none).");
        MooringDesk desk = Check.moored("sf1;rp5t10;ra-1p5t10");
        long[] want = {0, -2, 2, 5};
        long[] noTurn = {-1, 0, 0, 1};
        for (int what = 0; what <= 3; what++) {
            Doc.due("what " + what, desk.trim(2, what), want[what]);
            Doc.due("none, what " + what, Check.moored("sf1u20;ra-1t10;ra-1t10").trim(3, what), noTurn[what]);
        }
        Doc.says(30, "HIDDEN: no MOORING, out of bounds, no such what.");
        for (int what = 0; what <= 3; what++) {
            int w = what;
            Doc.due("no mooring", none().trim(1, what), HIDDEN);
            allWrong("n", 1, 3, HIDDEN, n -> (int) desk.trim(n, w));
        }
        allWrong("what", 0, 3, HIDDEN, n -> (int) desk.trim(1, n));
    }

    private static void fewest() {
        Doc.says(31, "FEWEST: how many (0), who (1, bits).");
        MooringDesk desk = Check.moored("sf1u3;ra-1t2;r;ra-1t1;ra-1t2");
        Doc.due("how many", desk.fewest(0), 2);
        Doc.due("who", desk.fewest(1), 9);
        Doc.due("all eight", Check.moored("sf1u8;ra-1t1;ra-1t1;ra-1t1;ra-1t1;ra-1t1;ra-1t1;ra-1t1;ra-1t1").fewest(1), 255);
        Doc.due("all eight", Check.moored("sf1u8;ra-1t1;ra-1t1;ra-1t1;ra-1t1;ra-1t1;ra-1t1;ra-1t1;ra-1t1").fewest(0), 8);
        Doc.due("the eighth", Check.moored("sf1u8;r;r;r;r;r;r;r;ra-1").fewest(1), 128);
        Doc.says(31, "NONE: none, no MOORING, no such what.");
        Doc.due("no mooring", none().fewest(0), -1);
        Doc.due("no mooring", none().fewest(1), -1);
        allWrong("what", 0, 1, -1, desk::fewest);
    }

    private static void without() {
        Doc.says(32, "WITHOUT: TAUT ones (0), those that BREAK by it (1), both as bits.");
        MooringDesk desk = Check.moored("sf1u5;ra-1t2;ra-1t2;ra-1t9;r");
        Doc.due("taut", desk.without(0, 0), 4);
        Doc.due("broken", desk.without(0, 1), 2);
        Doc.due("a slack one", desk.without(3, 0), 7);
        Doc.due("a slack one", desk.without(3, 1), 0);
        Doc.says(32, "NONE: no such ROPE, BROKEN, CAST OFF, it can't SETTLE, no such what.");
        MooringDesk four = four();
        for (int what = 0; what <= 1; what++) {
            int w = what;
            Doc.due("it can't settle", four.without(0, what), -1);
            Doc.due("broken", four.without(2, what), -1);
            Doc.due("cast off", four.without(3, what), -1);
            Doc.due("no mooring", none().without(0, what), -1);
            allWrong("rope", 0, 3, -1, n -> four.without(n, w));
        }
        allWrong("what", 0, 1, -1, n -> desk.without(0, n));
    }

    private static void key() {
        Doc.says(33, "KEY.");
        Doc.due("rope 0", four().key(), 0);
        Doc.due("rope 4", Check.moored("sf1u7;r;ra-1t2;ra-1t2;ra-1t2;ra-1t9").key(), 4);
        Doc.says(33, "NONE: no MOORING (some ROPE is TAUT always).");
        Doc.due("no mooring", none().key(), -1);
        Doc.due("one alone", Check.moored("sf1;r").key(), 0);
        MooringDesk desk = Check.moored("sf1u5;ra-1;r;ra-1t1");
        for (int seed = 0; seed < 20; seed++) {
            desk.years(40, seed);
            Doc.due("some is taut", desk.most(0) > 0, true);
            Doc.due("there is one", desk.key() >= 0, true);
        }
    }

    private static void odds() {
        Doc.says(34, "ODDS.");
        MooringDesk desk = three();
        Doc.due("half of it", desk.odds(50, 18, 0, 0, 1), 500000000);
        Doc.says(34, "NONE: no MOORING, out of bounds (WIND as above; all parts 0, too).");
        Doc.due("no mooring", none().odds(50, 1, 0, 0, 1), -1);
        Doc.due("all parts 0", desk.odds(50, 0, 0, 0, 1), -1);
        allWrong("chance", 0, 100, -1, n -> desk.odds(n, 1, 0, 0, 1));
        allWrong("along", -99, 99, -1, n -> desk.odds(50, n, 0, 0, 1));
        allWrong("across", -99, 99, -1, n -> desk.odds(50, 1, n, 0, 1));
        allWrong("round", -999, 999, -1, n -> desk.odds(50, 1, 0, n, 1));
        allWrong("n", 1, 6, -1, n -> desk.odds(50, 1, 0, 0, n));
        for (int sign = -1; sign <= 1; sign += 2) {
            Doc.due("as far as it goes", desk.odds(100, -99, sign * 99, sign * 999, 1), 1000000000);
        }
        Doc.due("0 of 6", desk.odds(0, 99, 0, 0, 6), 1000000000);
        Doc.due("100 of 6", desk.odds(100, 99, 0, 0, 6), 0);
    }
}
