import java.util.function.Consumer;
import java.util.function.LongSupplier;
import java.util.function.Supplier;

/** ==== 3 of the terms: what would be, from as it is now, and leaves it so. */
final class WouldBeSentences {
    private static final int HIDDEN = MooringDesk.HIDDEN;

    private WouldBeSentences() {
    }

    static void all() {
        apart();
        load();
        stand();
        fall();
        ease();
        range();
        unevenAndAccord();
        trim();
        fewest();
        withoutAndKey();
        held();
        odds();
        shares();
        run();
        perform();
    }

    private static void apart() {
        Doc.says(0, "(Apart, from as it is now.)");
        Consumer<MooringDesk> all = d -> {
            d.load(1, 0);
            d.stand(3, 0, 0, 0);
            d.fall(3, 0, 0, 0, 0);
            d.ease(1);
            d.range(0, true);
            d.uneven(0);
            d.accord(0, 1);
            d.trim(3, 0);
            d.fewest(1);
            d.without(1, 0);
            d.key();
            d.held(1, 0);
            d.odds(50, 9, 0, 0, 6);
            d.shares(1, 100);
            d.run(0, 0);
        };
        Seen.allSameBehind("all of these", SettleSentences::busy, all);
        // What is asked ahead of it changes no answer: asked in turn, and each one of a new object.
        askedAgain(SettleSentences::busy);
        askedAgain(() -> scripted("w1,0,0;c9"));
        askedAgain(() -> Check.moored("sf1u3;ra-1p2t3;ra-1t3;rp-9"));
        askedAgain(() -> Check.moored("sf1u4;r;ra-1p4t9;ra-1p2;ra-1k3t9"));
        MooringDesk twice = Check.moored("sf1u3;ra-1t2;ra-1t2;r");
        Doc.due("one gust", twice.stand(1, 0, 0, 0), 1);
        Doc.due("without that gust", twice.fewest(1), 3);
        // As it is now, not as it was told.
        MooringDesk desk = Check.moored("sf1;r;ra-1t9;ra-1");
        Doc.due("9 each", desk.stand(2, 0, 0, 0), 9);
        desk.wind(10, 0, 0);
        Doc.due("from 10 on", desk.stand(2, 0, 0, 0), 4);
        desk.undo();
        Doc.due("from 0 on", desk.stand(2, 0, 0, 0), 9);
    }

    private static void askedAgain(Supplier<MooringDesk> made) {
        long[] first = answers(made.get(), -1);
        MooringDesk asked = made.get();
        for (int time = 0; time < 3; time++) {
            long[] again = answers(asked, -1);
            for (int i = 0; i < first.length; i++) {
                Doc.due("answer " + i + " of time " + time, again[i], first[i]);
                Doc.due("answer " + i + " alone", answers(made.get(), i)[i], first[i]);
            }
        }
    }

    /** All that can be asked of what would be, or just one of these. */
    private static long[] answers(MooringDesk d, int one) {
        LongSupplier[] all = {() -> d.stand(3, 0, 0, 0), () -> d.stand(3, 0, 0, 1), () -> d.fall(5, 0, 0, 0, 0),
            () -> d.fall(5, 0, 0, 0, 1), () -> d.ease(0), () -> d.ease(1), () -> d.range(0, true), () -> d.range(0, false),
            () -> d.range(1, true), () -> d.trim(3, 0), () -> d.trim(3, 1), () -> d.trim(2, 2), () -> d.trim(2, 3),
            () -> d.fewest(0), () -> d.fewest(1), () -> d.without(1, 0), () -> d.without(1, 1), () -> d.without(0, 0), d::key,
            () -> d.odds(37, 30, 0, 0, 6), () -> d.run(0, 0), () -> d.run(0, 1), () -> d.pull(0, 0), () -> d.load(1, 1),
            d::worst, () -> d.uneven(0), () -> d.shift(0, 0), () -> d.held(1, 0), () -> d.most(4), () -> d.most(8)};
        long[] answers = new long[all.length];
        for (int i = 0; i < all.length; i++) {
            answers[i] = one < 0 || one == i ? all[i].getAsLong() : 0;
        }
        return answers;
    }

    private static void load() {
        Doc.says(0, "LOAD of a TAUT ROPE: PULL by STRENGTH.");
        MooringDesk desk = Check.moored("sf1u9;r;ra-1t9;ra-1t6");
        Doc.due("9 halves by 9", desk.load(1, 0), 1);
        Doc.due("9 halves by 9", desk.load(1, 1), 2);
        Doc.due("9 halves by 6", desk.load(2, 0), 3);
        Doc.due("9 halves by 6", desk.load(2, 1), 4);
        desk = Check.moored("sf1;r;ra-1");
        Doc.due("0", desk.load(1, 0), 0);
        Doc.due("by 1", desk.load(1, 1), 1);
    }

    private static void stood(String text, int times, int rope) {
        MooringDesk desk = Check.moored(text);
        Doc.due(text + ": times", desk.stand(1, 0, 0, 0), times);
        Doc.due(text + ": rope", desk.stand(1, 0, 0, 1), rope);
    }

    private static void stand() {
        Doc.says(0, "STAND by a WIND: it comes again and again, as an ACT would: how many times (60 at most) that can be without "
            + "that any BREAKS;");
        // Half of the wind by each: rope 1 breaks above 2 times its strength.
        stood("sf1;r;ra-1t29;ra-1", 58, 1);
        stood("sf1u1;r;ra-1t30;ra-1", 59, 1);
        stood("sf1;r;ra-1t30;ra-1", 60, -1);
        stood("sf1u-1;rp3;ra-1t30;ra-1", 60, -1);
        stood("sf1u59;r;ra-1t29;ra-1", 60, -1);
        stood("sf1u58;r;ra-1t29;ra-1", 0, 1);
        Doc.due("as an act: 999 along", Check.moored("sf1;r;ra-1").stand(99, 0, 0, 0), 10);
        Doc.due("as an act: 999 across", Check.moored("sf1v99;r;ra-1").stand(0, 90, 0, 0), 10);
        Doc.due("as an act: 999 across", Check.moored("sf1v99;r;ra-1").stand(0, 91, 0, 0), 9);
        Doc.due("as an act: 9,999 round", Check.moored("sf1w9;r;ra-1").stand(0, 0, 999, 0), 10);
        Doc.due("as an act: 9,999 round", Check.moored("sf1w10;r;ra-1").stand(0, 0, 999, 0), 9);
        Doc.says(0, "which ROPE BREAKS first by the next one (NONE: none; it can't be).");
        // By 15 all three bear 5: rope 3 breaks first, then rope 1.
        MooringDesk desk = Check.moored("sf1;r;ra-1t4;ra-1t99;ra-1t3");
        Doc.due("none by 0", desk.stand(15, 0, 0, 0), 0);
        Doc.due("the worst, not the lowest", desk.stand(15, 0, 0, 1), 3);
        Doc.due("out of bounds", Check.moored("sf1;r;ra-1").stand(99, 0, 0, 1), -1);
        desk = Check.moored("sf1;ra-1t4;ra-1t3");
        Doc.due("two of 3", desk.stand(3, 0, 0, 0), 2);
        Doc.due("both break, and it is adrift", desk.stand(3, 0, 0, 1), -1);
        Doc.due("it would push", desk.stand(-1, 0, 0, 0), 0);
        Doc.due("it would push", desk.stand(-1, 0, 0, 1), -1);
        // The very first one goes round for ever.
        desk = Rounds.ahead(Rounds.ACTS[0]);
        Doc.due("round for ever", desk.stand(4, 1, -5, 0), 0);
        Doc.due("round for ever", desk.stand(4, 1, -5, 1), -1);
    }

    private static void fall() {
        Doc.says(0, "FALL by a WIND: it comes again and again (60 times at most, till it can't be): ROPES in the order in which they "
            + "BREAK, behind how many times each.");
        MooringDesk desk = Check.moored("sf1;r;ra-1t9;ra-1t20;ra-1t5");
        // A third each: rope 3 breaks by 16; halves: rope 1 by 19; rope 2 alone can't bear 21, and then nothing holds it.
        int[][] want = {{3, 16}, {1, 19}};
        for (int i = 0; i < want.length; i++) {
            Doc.due("number " + i, desk.fall(1, 0, 0, i, 0), want[i][0]);
            Doc.due("number " + i, desk.fall(1, 0, 0, i, 1), want[i][1]);
        }
        Doc.due("what can't be breaks none", desk.fall(1, 0, 0, 2, 0), HIDDEN);
        // By one of 18 rope 3 breaks, and 9 by rope 1 can be; by the next one both others would, and so none.
        Doc.due("by 18", desk.fall(18, 0, 0, 0, 1), 1);
        Doc.due("by 18", desk.fall(18, 0, 0, 1, 1), HIDDEN);
        // By one of 20 two break at once.
        Doc.due("by 20", desk.fall(20, 0, 0, 0, 0), 3);
        Doc.due("by 20", desk.fall(20, 0, 0, 1, 0), 1);
        Doc.due("by 20", desk.fall(20, 0, 0, 1, 1), 1);
        Doc.due("by the 59th", Check.moored("sf1;r;ra-1t29;ra-1").fall(1, 0, 0, 0, 1), 59);
        Doc.due("by the 60th", Check.moored("sf1u1;r;ra-1t30;ra-1").fall(1, 0, 0, 0, 1), 60);
        Doc.due("by the 61st", Check.moored("sf1;r;ra-1t30;ra-1").fall(1, 0, 0, 0, 1), HIDDEN);
        // A rope that broke is not there to break again.
        Doc.due("once each", Check.moored("sf1u1;r;ra-1t1;ra-1").fall(5, 0, 0, 1, 0), HIDDEN);
    }

    private static void ease() {
        Doc.says(0, "EASE of a ROPE: how many turns (60 at most) by -1 of its WINCH, one behind the other, till it is SLACK");
        // The pull is (p and the other's) by 2: below 0 as p is 36 less than 0.
        Doc.due("59", Check.moored("sf1;rp23;ra-1p35").ease(0), 59);
        Doc.due("60", Check.moored("sf1;rp24;ra-1p35").ease(0), 60);
        Doc.due("61 are none", Check.moored("sf1;rp25;ra-1p35").ease(0), -1);
        Doc.due("0 is not slack", Check.moored("sf1;rp-35;ra-1p35").ease(0), 1);
        Doc.due("slack now", Check.moored("sf1;rp-36;ra-1p35").ease(0), 0);
        Doc.due("by stiffness", Check.moored("sf1u4;ra-1k4p8;ra-1;r").ease(0), 7);
        Doc.says(0, "(one more that can't be, a p out of bounds, a ROPE that BREAKS: none).");
        Doc.due("both would push alike, rope 0 leaves", Check.moored("sf1;rp5;ra-1p5").ease(1), -1);
        // Behind ten turns both pull by 0, as long as they push alike rope 0 is the one that leaves.
        Doc.due("rope 0 is slack by the eleventh", Check.moored("sf1;rp5;ra-1p5").ease(0), 11);
        Doc.due("what holds it is never slack", Check.moored("sf1u-3;rp2;ra-1p-9").ease(0), -1);
        Doc.due("round for ever by the sixth turn", Check.moored("sf3;rx-1a-3b1p2;rk8x1y4a4b-1p-5;rk9x1y1a0b3p-15;rk7x-3a3b-2p16;"
            + "rk3x3y-4a-2b-4p2").ease(2), -1);
        // Slack as its p is less than 9 times what the wind is more than the other's p: at -999, and at -1,008.
        Doc.due("-999", eased(11).ease(0), 48);
        Doc.due("-1,008", eased(12).ease(0), -1);
        Doc.due("rope 1 bears 13 halves", Check.moored("sf1u8;ra-1p5;ra-1t7;r").ease(0), -1);
        Doc.due("rope 1 bears 8", Check.moored("sf1u8;ra-1p5;ra-1t8;r").ease(0), 14);
    }

    private static MooringDesk eased(int more) {
        MooringDesk desk = Check.moored("sf1u99;ra-1k9;ra-1;r");
        desk.wind(more, 0, 0);
        for (int i = 0; i < 7; i++) {
            Doc.due("let out", desk.winch(0, -9), 0);
        }
        Doc.due("p", desk.rope(0, 7), -567);
        return desk;
    }

    private static void range() {
        Doc.says(0, "RANGE on an axis, up or down: how many times (60 at most) WIND of 1 on it (1 less) can come, so that just those "
            + "that are TAUT now are TAUT still and none BREAKS.");
        // Rope 0 has 30 less half of the wind: 0 by 60, below 0 by 61.
        Doc.due("59", Check.moored("sf1u1;rp30;ra-1p30").range(0, true), 59);
        Doc.due("60", Check.moored("sf1;rp30;ra-1p30").range(0, true), 60);
        Doc.due("60 at most", Check.moored("sf1u-1;rp30;ra-1p30").range(0, true), 60);
        Doc.due("down", Check.moored("sf1u-1;rp30;ra-1p30").range(0, false), 59);
        Doc.due("down", Check.moored("sf1;rp30;ra-1p30").range(0, false), 60);
        Doc.due("another is taken", Check.moored("sf1u9;ra-1p5;ra-1p-3;rp-9").range(0, false), 1);
        Doc.due("none breaks", Check.moored("sf1u1;r;ra-1t9;ra-1").range(0, true), 17);
        // No wind comes on the other axes: across it would end all by 20.
        String each = "sf7;ry1p15;ry-1p15;ra-1y1p15;ra-1y-1p15;ra0b1p10;ra0b-1p10";
        int[] ranges = {60, 20, 60};
        for (int axis = 0; axis <= 2; axis++) {
            Doc.due("up " + axis, Check.moored(each).range(axis, true), ranges[axis]);
            Doc.due("down " + axis, Check.moored(each).range(axis, false), ranges[axis]);
        }
        Doc.due("taken and broken at once, the taut ones stay",
            Check.moored("sf3;rk3p34;rk8p47t1;rk3a0b2p-14t51;rk7a-2b1p-32t20").range(1, false), 8);
        Doc.due("adrift by the fourth", Check.moored("sf1u-3;r").range(0, true), 3);
        Doc.due("round for ever by the third", Check.moored("sf7;rk6y2a0b-4p-4;rk4x2y1a0b3p-19;rk5x-4y-4a3b4p-15;rk2x3y4a-1b-1p14;"
            + "rk4x-1y-1a2b1p2;rk6x-3y4a-1b-1p18").range(1, false), 2);
        MooringDesk far = Check.moored("sf1v99w99;rp5;ra-1p5");
        for (int i = 0; i < 9; i++) {
            far.wind(0, 99, 999);
        }
        Doc.due("999 across", far.range(1, true), 9);
        Doc.due("down", far.range(1, false), 60);
        far.wind(0, 0, 902);
        Doc.due("9,999 round", far.range(2, true), 7);
        far.wind(0, 9, 7);
        Doc.due("none", far.range(1, true), 0);
        Doc.due("none", far.range(2, true), 0);
    }

    private static void unevenAndAccord() {
        Doc.says(0, "UNEVEN: the greatest LOAD less the least.");
        MooringDesk desk = Check.moored("sf1u9;r;ra-1t9;ra-1t6");
        Doc.due("3 by 4 less 1 by 2", desk.uneven(0), 1);
        Doc.due("3 by 4 less 1 by 2", desk.uneven(1), 4);
        desk = Check.moored("sf1u9;r;ra-1");
        Doc.due("one alone", desk.uneven(0), 0);
        Doc.due("one alone", desk.uneven(1), 1);
        Doc.says(0, "ACCORD of two ROPES: their WAYS multiplied part by part on FREE axes, added up.");
        String ropes = ";rx4y-4a4b3p50;rx-4y4a-2b4p50;ra-1b-4p50";
        // Ways of 4, 3, 28 and of -2, 4, -8.
        int[] parts = {-8, 12, -224};
        for (int free = 1; free <= 7; free++) {
            int want = 0;
            for (int axis = 0; axis <= 2; axis++) {
                want += (free >> axis & 1) * parts[axis];
            }
            MooringDesk told = new MooringDesk();
            if (Check.tell(told, 0, "sf" + free + ropes) > 0) {
                Doc.due("free " + free, told.accord(0, 1), want);
                Doc.due("free " + free, told.accord(1, 0), want);
            }
        }
        desk = Check.moored("sf1;rp5;ra-1p5;r");
        desk.cast(2);
        Doc.due("of one that is cast off", desk.accord(1, 2), -1);
        Doc.due("with itself", desk.accord(1, 1), 1);
    }

    private static void trimmed(MooringDesk desk, int n, int rope, int turn, long up, long low) {
        long[] want = {rope, turn, up, low};
        for (int what = 0; what <= 3; what++) {
            Doc.due("trim " + n + ", " + what, desk.trim(n, what), want[what]);
        }
    }

    private static void trim() {
        Doc.says(0, "TRIM by n (1 .. 3): of all turns of one WINCH by -n .. n (not 0; ROPES that are TAUT or SLACK)");
        MooringDesk pair = Check.moored("sf1;rp5t10;ra-1p5t10");
        trimmed(pair, 1, 0, -1, 9, 20);
        trimmed(pair, 2, 0, -2, 2, 5);
        trimmed(pair, 3, 0, -3, 7, 20);
        Doc.due("n", pair.trim(0, 0), HIDDEN);
        Doc.due("n", pair.trim(4, 0), HIDDEN);
        // A turn of 0 would be best: 10 of 10 by both, and each turn makes one of them more; but that is none.
        MooringDesk full = Check.moored("sf1u20;ra-1t10;ra-1t10");
        trimmed(full, 3, -1, 0, 0, 1);
        // By 12 and 8 of 20: rope 0 let out by 3 has 21 halves, as has rope 1 taken in by 3.
        trimmed(Check.moored("sf1u20;ra-1p4t20;ra-1t20"), 3, 0, -3, 21, 40);
        trimmed(Check.moored("sf1u20;ra-1p9t20;ra-1k2t20"), 1, 0, -1, 3, 5);
        // The slack one has turns, too; those broken or cast off have none.
        trimmed(Check.moored("sf1u20;ra-1t10;ra-1t10;rp-50"), 3, 2, -3, 1, 1);
        MooringDesk cast = Check.moored("sf1u5;ra-1;ra-1;r");
        cast.cast(0);
        trimmed(cast, 2, 1, -2, 5, 999);
        // None behind one that there was.
        MooringDesk slack = Check.moored("sf1u20;ra-1t10;ra-1t10;rp-50");
        trimmed(slack, 1, 2, -1, 1, 1);
        slack.cast(2);
        trimmed(slack, 1, -1, 0, 0, 1);
        trimmed(Check.moored("sf1u5;ra-1t1;ra-1;r"), 2, 1, -2, 5, 999);
        Doc.says(0, "by which it SETTLES and none BREAKS");
        // Taken in by 1 rope 0 breaks, and nothing holds it; let out by 1 it has 13 by 14. Then: each turn breaks a rope.
        trimmed(Check.moored("sf1u-4;rp5t7;ra-1p5t3"), 1, 0, -1, 13, 14);
        trimmed(Check.moored("sf1u20;ra-1t10;ra-1t10"), 1, -1, 0, 0, 1);
        Doc.says(0, "that whose greatest LOAD is least (of several the lowest ROPE, then the least turn).");
        trimmed(Check.moored("sf1u5;ra-1;r"), 3, 0, -3, 5, 999);
        trimmed(Check.moored("sf1u5;r;ra-1"), 1, 0, -1, 5, 999);
        // Of rope 1 in by 1 and rope 0 out by 1 both make 5 halves; the lowest rope, though its turn is more.
        trimmed(Check.moored("sf1u5;ra-1p-1t5;ra-1t5;rp-9"), 1, 0, 1, 1, 2);
        // 2 by 5, then 1 by 2; and the other way about.
        trimmed(Check.moored("sf1;rp5t10;ra-1p4t10"), 1, 0, -1, 2, 5);
        trimmed(Check.moored("sf1u7;ra-1p-2t10;ra-1t10;rp-9"), 1, 0, 1, 2, 5);
        // 0, then more than that; and the other way about.
        trimmed(Check.moored("sf1;rp1;ra-1"), 1, 0, -1, 0, 1);
        trimmed(Check.moored("sf1;rp-50;rp1;ra-1"), 1, 1, -1, 0, 1);
        // Rope 0 is slack, all its turns are alike; beyond the bound of p there is none.
        MooringDesk far = Check.moored("sf1u5;rp-50;ra-1");
        for (int i = 0; i < 105; i++) {
            far.winch(0, -9);
        }
        far.winch(0, -3);
        trimmed(far, 3, 0, -1, 5, 999);
        far.winch(0, -1);
        Doc.due("p", far.rope(0, 7), -999);
        trimmed(far, 3, 0, 1, 5, 999);
    }

    private static void few(String text, int size, int bits) {
        MooringDesk desk = Check.moored(text);
        Doc.due(text + ": how many", desk.fewest(0), size);
        Doc.due(text + ": who", desk.fewest(1), bits);
    }

    private static void fewest() {
        Doc.says(0, "FEWEST: of ROPES that are TAUT or SLACK the least set that, all others of them CAST OFF at once,");
        few("sf1u3;rp5;ra-1p5", 1, 2);
        few("sf1u-3;rp5;ra-1p5", 1, 1);
        few("s;rp1;ra0b1p1;ra-1p1", 2, 3);
        few("sf7u1;ry1p20;ry-1p20;ra-1y1p20;ra-1y-1p20;ra0b1p5;ra0b-1p5", 3, 28);
        MooringDesk desk = Check.moored("sf1u3;ra-1;ra-1t2;ra-1t2;ra-1t2;r");
        desk.cast(0);
        Doc.due("without what is cast off", desk.fewest(1), 6);
        Doc.due("without what is broken", Check.moored("sf1u9;ra-1k9t2;ra-1").fewest(1), 2);
        Doc.says(0, "those of it TAUT at first, SETTLES and none BREAKS");
        few("sf1u6;ra-1t3;ra-1t3;ra-1t3;r", 2, 3);
        few("sf1u7;ra-1t3;ra-1t3;ra-1t3;r", 3, 7);
        few("sf1u4;ra-1t3;ra-1t4;r", 1, 2);
        // Slack now, and enough by itself.
        few("sf1u2;ra-1p-9t9;ra-1t9;r", 1, 1);
        Doc.says(0, "(of several with as few that with the least number as bits).");
        few("sf1;rp5;ra-1p5", 1, 1);
        few("sf1u3;r;ra-1;ra-1;ra-1", 1, 2);
        few("sf1u3;ra-1t1;ra-1t2;ra-1t2;ra-1t2;r", 2, 6);
        // One with a greater number is less than two with a lesser one.
        few("sf1u4;ra-1t2;ra-1t2;r;r;ra-1t4", 1, 16);
    }

    private static void withoutAndKey() {
        Doc.says(0, "WITHOUT a ROPE: those TAUT, BROKEN, were it CAST OFF.");
        MooringDesk desk = Check.moored("sf1u5;ra-1t2;ra-1t2;ra-1t9;r");
        int[][] want = {{4, 2}, {4, 1}, {-1, -1}, {7, 0}};
        for (int rope = 0; rope < 4; rope++) {
            Doc.due("taut without " + rope, desk.without(rope, 0), want[rope][0]);
            Doc.due("broken without " + rope, desk.without(rope, 1), want[rope][1]);
        }
        Doc.due("those that are broken already do not break by it", Check.moored("sf1u5;ra-1k9t2;ra-1;ra-1").without(1, 1), 0);
        Doc.due("round for ever", Check.moored("sf3;rk7x2a-3b-2p6;rk7x-3y4a-3b-4p3;rk8x1y-1a0b-4p-17;rx4y-2a2b2p1;rk8y-3a-2b3p-19;"
            + "rk2x1y3a0b4p10;rk2x2y3a2b-3p-7").without(5, 0), -1);
        Doc.says(0, "KEY: the ROPE, TAUT or SLACK, without which it can't SETTLE, or most BREAK (who can't is worse than all; of "
            + "several the lowest).");
        Doc.due("rope 2", desk.key(), 2);
        Doc.due("most break", Check.moored("sf1u15;r;ra-1t1;ra-1t1;ra-1k9t99;ra-1k9t99").key(), 3);
        // Without rope 1 or 2 the other and rope 3 break; without rope 4 it can't be.
        Doc.due("who can't", Check.moored("sf1u7;r;ra-1t2;ra-1t2;ra-1t2;ra-1t9").key(), 4);
        Doc.due("all alike", Check.moored("sf1;rp1;ra-1p1").key(), 0);
        Doc.due("two that can't", Check.moored("sf3u1v1;r;ra-1;ra0b-1").key(), 1);
        MooringDesk less = Check.moored("sf1u5;ra-1;r;ra-1");
        less.cast(0);
        Doc.due("not what is cast off", less.key(), 2);
        Doc.due("not what is broken", Check.moored("sf1u9;ra-1k9t2;ra-1;ra-1").key(), 1);
    }

    private static void held() {
        Doc.says(0, "HELD on an axis that is not FREE: WIND and of all TAUT ROPES PULL times WAY on it, added up.");
        MooringDesk desk = Check.moored("sf1u2v-7;rb3p5;ra-1b1p5;rb4p-9");
        // Pulls of 4 and 6, rope 2 is slack and does not count.
        Doc.due("across", desk.held(1, 0), -7 + 12 + 6);
        Doc.due("across", desk.held(1, 1), 1);
        Doc.due("along", desk.held(0, 0), 0);
        desk.wind(1, 0, 5);
        Doc.due("7 halves and 13 halves", desk.held(1, 0), 10);
        Doc.due("round", desk.held(2, 0), 5);
    }

    private static void odds() {
        Doc.says(0, "ODDS by a chance (0 .. 100), a WIND, n (1 .. 6): of 10 to the 9 parts:");
        MooringDesk desk = Check.moored("sf1;r;ra-1t9");
        Doc.due("0", desk.odds(0, 10, 0, 0, 1), 1000000000);
        Doc.due("100", desk.odds(100, 10, 0, 0, 1), 0);
        Doc.due("100", desk.odds(100, 9, 0, 0, 1), 1000000000);
        Doc.due("-1", desk.odds(-1, 1, 0, 0, 1), -1);
        Doc.due("101", desk.odds(101, 1, 0, 0, 1), -1);
        Doc.due("n 0", desk.odds(50, 1, 0, 0, 0), -1);
        Doc.due("n 7", desk.odds(50, 1, 0, 0, 7), -1);
        Doc.due("n 1", desk.odds(50, 9, 0, 0, 1), 1000000000);
        Doc.due("n 6", desk.odds(50, 10, 0, 0, 6), 15625000);
        Doc.says(0, "n times, by itself, it comes by that chance (of each part chance 100ths, cut), or it does not:");
        // What does not come six times by 33: 1,000,000,000, less 33 hundredths of it, cut, and so on.
        long left = 1000000000;
        for (int i = 0; i < 6; i++) {
            left -= left * 33 / 100;
        }
        Doc.due("cut", desk.odds(33, 10, 0, 0, 6), left);
        Doc.due("all ways together are whole", desk.odds(33, 1, 0, 0, 6), 1000000000);
        // Once at most of six: each way cut by itself.
        Doc.due("once", desk.odds(37, 9, 0, 0, 6), once(37));
        Doc.says(0, "by how many none BREAKS, and all that come can be.");
        Doc.due("one of three at most", desk.odds(30, 5, 0, 0, 3), 784000000);
        MooringDesk three = Check.moored("sf1;r;ra-1t5;ra-1t7;ra-1t200");
        Doc.due("15 can be, by 18 one breaks", three.odds(50, 15, 0, 0, 1), 1000000000);
        Doc.due("15 can be, by 18 one breaks", three.odds(50, 18, 0, 0, 1), 500000000);
        Doc.due("six of 2, not six of 3", three.odds(50, 2, 0, 0, 6), 1000000000);
        Doc.due("six of 2, not six of 3", three.odds(50, 3, 0, 0, 6), 984375000);
    }

    private static long once(int chance) {
        long sum = 0;
        for (int comes = -1; comes < 6; comes++) {
            long parts = 1000000000;
            for (int i = 0; i < 6; i++) {
                long part = parts * chance / 100;
                parts = i == comes ? part : parts - part;
            }
            sum += parts;
        }
        return sum;
    }

    private static void shares() {
        Doc.says(0, "SHARES of c (0 .. 999) by STIFFNESS: of a TAUT ROPE: c times its by that of all TAUT ones, cut.");
        MooringDesk desk = Check.moored("sf1u1;ra-1k2;ra-1k5;rk9");
        int[][] want = {{0, 0, 0}, {1, 0, 0}, {7, 2, 5}, {10, 2, 7}, {999, 285, 713}};
        for (int[] w : want) {
            Doc.due("2 of 7 of " + w[0], desk.shares(0, w[0]), w[1]);
            Doc.due("5 of 7 of " + w[0], desk.shares(1, w[0]), w[2]);
        }
        Doc.due("-1", desk.shares(0, -1), -1);
        Doc.due("1,000", desk.shares(0, 1000), -1);
        Doc.due("one alone", Check.moored("sf1u1;ra-1k2;rk9").shares(0, 999), 999);
    }

    private static void run() {
        Doc.says(0, "RUN of a SCRIPT: behind how many STEPS the first is that can't be; how many are TAUT behind these.");
        MooringDesk desk = Check.moored("sf1;rp5;ra-1p5;ra-1t1");
        String[] texts = {"w6,0,0;n2;w5,0,0;c2;w1,0,0", "c2;w1,0,0", "c9;c2", "c2;c2"};
        int[][] want = {{3, 1}, {-1, 2}, {0, 3}, {1, 2}};
        for (int i = 0; i < texts.length; i++) {
            Check.tell(desk, 1, texts[i]);
            Doc.due(texts[i], desk.run(i, 0), want[i][0]);
            Doc.due(texts[i], desk.run(i, 1), want[i][1]);
        }
    }

    private static void perform() {
        Doc.says(0, "DO: all its STEPS as one ACT (of each a line in the LOG);");
        MooringDesk desk = Check.moored("sf1;rp5;ra-1p5;ra-1t1");
        Check.tell(desk, 1, "w6,0,0;h0:2;n2;c0;n0");
        Doc.due("five steps", desk.perform(0), 5);
        Doc.due("one act", desk.count(4), 1);
        Doc.due("five lines", desk.count(3), 5);
        int[][] lines = {{3, 0, 0}, {2, 0, 0}, {3, 2, 4}, {1, 0, 0}, {0, -1, 4}};
        for (int i = 0; i < 5; i++) {
            for (int what = 0; what <= 2; what++) {
                Doc.due("line " + i, desk.log(i, what), lines[i][what]);
            }
        }
        Doc.due("undone at once", desk.undo(), 0);
        Doc.due("as it was", desk.rule(1), 0);
        Doc.due("no line", desk.count(3), 0);
        Doc.says(0, "can one not be, none is done, and it is refused (STATUS by the STEP's reason).");
        String[] steps = {"c9", "h0:1" + ";w0,99,0".repeat(11), "w6,0,0;c2", "c2;w-99,0,0;c0"};
        for (int i = 0; i < steps.length; i++) {
            String text = steps[i];
            int reason = i;
            Seen.sameBehind(text, () -> scripted(text), d -> Doc.due("refused", d.perform(1), -1));
            MooringDesk told = scripted(text);
            told.perform(1);
            Doc.due("status " + reason, told.status(reason), 1);
        }
        for (String[] round : Rounds.ACTS) {
            MooringDesk ahead = Rounds.ahead(round);
            Check.tell(ahead, 1, "w0,0,1;w0,0,-1;" + round[round.length - 1]);
            if (ahead.run(0, 0) == 2) {
                Doc.due("round for ever", ahead.perform(0), -1);
                Doc.due("status 4", ahead.status(4), 1);
                Refused.causes("round for ever", ahead, 1002, ahead.cause(1), 200, 4);
            }
        }
    }

    private static MooringDesk scripted(String text) {
        MooringDesk desk = Check.moored("sf1;rp5;ra-1p5;ra-1t1");
        Check.tell(desk, 1, "w1,0,0");
        desk.perform(0);
        desk.image();
        desk.winch(0, 1);
        Check.due("script 1", Check.tell(desk, 1, text), 1);
        return desk;
    }
}
