/** ==== 2 of the terms, first part: ropes, shifts, pulls, and how it settles. */
final class SettleSentences {
    private SettleSentences() {
    }

    static void all() {
        ropes();
        shiftsAndPulls();
        balance();
        setAndAdrift();
        leaves();
        joins();
        leavesAheadOfJoining();
        roundForEver();
        breaks();
        breaksByLoad();
        statesAndTries();
        told();
    }

    private static void pull(MooringDesk desk, int rope, long up, long low) {
        Doc.due("pull " + rope + " above", desk.pull(rope, 0), up);
        Doc.due("pull " + rope + " below", desk.pull(rope, 1), low);
    }

    private static void ropes() {
        Doc.says(0, "ROPES are numbered as they come:");
        MooringDesk desk = Check.moored("rk1p5;sf1;ra-1k2p5;rk3;rk4;rk5;rk6;rk7;rk8");
        for (int rope = 0; rope < 8; rope++) {
            Doc.due("rope " + rope, desk.rope(rope, 0), rope + 1);
        }
        Doc.says(0, "each is TAUT (0), SLACK (1), BROKEN (2) or CAST OFF (3).");
        desk = Check.moored("sf1u5;ra-1;r;ra-1t1;ra-1");
        desk.cast(3);
        for (int rope = 0; rope < 4; rope++) {
            Doc.due("rope " + rope, desk.rope(rope, 8), rope);
            Doc.due("bits of " + rope, desk.most(rope), 1 << rope);
        }
        Doc.says(0, "Its ARM is x times b less y times a;");
        int[][] arms = {{4, -4, 4, 4, 32}, {-4, 4, 4, 4, -32}, {4, 4, 4, 4, 0}, {3, 2, 1, 0, -2}, {3, 2, 0, 1, 3},
            {0, 0, 4, 4, 0}, {-1, -2, -3, 4, -10}};
        for (int[] arm : arms) {
            String rope = ";rx" + arm[0] + "y" + arm[1] + "a" + arm[2] + "b" + arm[3];
            Doc.due("arm of" + rope, Check.moored("sf1;rp5;ra-1p5" + rope).rope(2, 5), arm[4]);
        }
        Doc.says(0, "its WAY is a, b, ARM (for along, across, round).");
        // By itself on each axis, as shown by what the pier holds of its pull of 6: way times 6.
        desk = Check.moored("sf1u-12;ra2b3x4y1p6");
        pull(desk, 0, 6, 1);
        Doc.due("across", desk.held(1, 0), 18);
        Doc.due("round", desk.held(2, 0), 60);
        Doc.due("along", Check.moored("sf2v-18;ra2b3x4y1p6").held(0, 0), 12);
        Doc.due("round", Check.moored("sf2v-18;ra2b3x4y1p6").held(2, 0), 60);
        Doc.due("along", Check.moored("sf4w-60;ra2b3x4y1p6").held(0, 0), 12);
        Doc.due("across", Check.moored("sf4w-60;ra2b3x4y1p6").held(1, 0), 18);
    }

    private static void shiftsAndPulls() {
        Doc.says(0, "A SHIFT has three parts, those of axes that are not FREE are 0.");
        MooringDesk desk = Check.moored("sf1u4v9w9;rp5x1y1b1;ra-1p5x1y1b1");
        Doc.due("along", desk.shift(0, 0), 2);
        for (int axis = 1; axis <= 2; axis++) {
            Doc.due("on " + axis, desk.shift(axis, 0), 0);
            Doc.due("on " + axis, desk.shift(axis, 1), 1);
        }
        desk = Check.moored("sf6v2w2u9;rp5x1y1a0b1;rp5x-1y1a0b1;rp9a0b-1");
        Doc.due("along", desk.shift(0, 0), 0);
        Doc.due("along", desk.shift(0, 1), 1);
        Doc.says(0, "PULL of a ROPE by a SHIFT: p as it is now, less STIFFNESS times WAY and SHIFT multiplied part by part "
            + "and added up.");
        // 3 (5 - 6 s) - (5 + s) is 0 by s of 10 by 19.
        desk = Check.moored("sf1;rk2a3p5;ra-1p5");
        Doc.due("shift", desk.shift(0, 0), 10);
        Doc.due("shift", desk.shift(0, 1), 19);
        pull(desk, 0, 35, 19);
        pull(desk, 1, 105, 19);
        // p as it is now: 3 (7 - 6 s) - (5 + s) by s of 16 by 19.
        desk.winch(0, 1);
        pull(desk, 0, 37, 19);
        pull(desk, 1, 111, 19);
        // Of all three parts: along 3 by 2, round 1, by ways of 1, 0, -1 and of 1, 0, 1.
        desk = Check.moored("sf7u6w4;ry1p20;ry-1p20;ra-1y1p20;ra-1y-1p20;rb1a0p5;ra0b-1p5");
        pull(desk, 0, 39, 2);
        pull(desk, 1, 35, 2);
    }

    /** Wind and pulls times ways, added up as they are told. */
    private static void balanced(MooringDesk desk) {
        for (int axis = 0; axis <= 2; axis++) {
            Oracle.Frac sum = Oracle.Frac.of(desk.rule(1 + axis), 1);
            for (int rope = 0; rope < desk.count(0); rope++) {
                if (desk.rope(rope, 8) == 0) {
                    sum = sum.plus(Oracle.Frac.of(desk.pull(rope, 0), desk.pull(rope, 1)).times(desk.rope(rope, 3 + axis)));
                }
            }
            boolean isFree = (desk.rule(0) >> axis & 1) != 0;
            Doc.due("axis " + axis, sum.told(0), isFree ? 0 : desk.held(axis, 0));
            Doc.due("axis " + axis, sum.told(1), isFree ? 1 : desk.held(axis, 1));
        }
    }

    private static void balance() {
        Doc.says(0, "BALANCE on an axis: WIND, and of all TAUT ROPES PULL times WAY on it, added up, is 0.");
        String far = "u99v99w999;rk9x4y-4a4b4p50;rk9x-4y4a-4b-4p50;rk9x4y4a-4b4p50;rk9x-4y-4a4b-4p50;rk9x4y3a4b-4p50;"
            + "rk9x-4y3a-4b4p50;rk9x3y-4a4b3p50;rk9x-4y-3a-3b-4p50";
        for (int free = 1; free <= 7; free++) {
            MooringDesk desk = Check.moored("sf" + free + far);
            balanced(desk);
            desk.wind(-99, 99, -999);
            desk.winch(3, 9);
            balanced(desk);
        }
    }

    private static void setAndAdrift() {
        Doc.says(0, "To SETTLE: the SET is those TAUT now.");
        // As it is told rope 0 leaves, then rope 1; behind that they are not in the set that it begins by.
        MooringDesk desk = Check.moored("sf1u9;rp3;rp5;ra-1");
        Doc.due("rope 2 holds it", desk.most(0), 4);
        Doc.due("three shifts", desk.rule(4), 3);
        desk.wind(1, 0, 0);
        Doc.due("one shift", desk.rule(4), 1);
        Doc.says(0, "The SHIFT is that by which there is BALANCE on each FREE axis, just the ROPES of the SET pulling");
        Doc.due("10 by rope 2 alone", desk.shift(0, 0), 10);
        pull(desk, 2, 10, 1);
        balanced(desk);
        Doc.says(0, "(of STIFFNESS times WAY times WAY, added up, by each two FREE axes, the determinant is above 0, or 0: "
            + "then there is none such, or many: ADRIFT).");
        String[] adrift = {"sf3v1;rp1;ra-1p1", "sf3;rp1;ra-1p1", "sf2;rp1", "sf4;rp1;ra-1p1", "sf4w1;rp1;ra-1p1",
            "sf3;rb1p1;ra-1b-1p1", "sf3;ra4b2p1;ra-2b-1p1",
            // All through one point of the ship: each axis has stiffness, but nothing holds it round that point.
            "sf7;rx1y1p5;rx1y1a-1p5;rx1y1a0b1p5;rx1y1a0b-1p5", "sf5;ry2p5;ry2a-1p5", "sf6;rx2a0b1p5;rx2a0b-1p5"};
        for (String text : adrift) {
            Doc.due(text, Check.tell(new MooringDesk(), 0, text), -2);
        }
        Doc.due("just held", Check.tell(new MooringDesk(), 0, "sf3;rb1p1;ra-1b-1p1;ra4b3p9"), 3);
        Doc.due("just held", Check.tell(new MooringDesk(), 0, "sf7;rx1y1p5;rx1y2a-1p5;rx1y1a0b1p5;rx1y1a0b-1p5"), 4);
        Doc.due("just held", Check.tell(new MooringDesk(), 0, "sf3;rx1y1p5;rx1y1a-1p5;rx1y1a0b1p5;rx1y1a0b-1p5"), 4);
        desk = Check.moored("sf1;rp5");
        Doc.due("it would push", desk.wind(1, 0, 0), -1);
        Doc.due("no rope is left", desk.status(3), 1);
    }

    private static void leaves() {
        Doc.says(0, "By it: is PULL of any of the SET below 0, that with the least (of several the lowest) leaves the SET;");
        // Both are laid 5 short: by a wind of -1 they would push by 9 halves and 11 halves.
        MooringDesk desk = Check.moored("sf1u-1;rp-5;ra-1p-5");
        Doc.due("rope 1 has the least", desk.most(0), 1);
        pull(desk, 0, 1, 1);
        desk = Check.moored("sf1u1;rp-5;ra-1p-5");
        Doc.due("rope 0 has the least", desk.most(0), 2);
        pull(desk, 1, 1, 1);
        desk = Check.moored("sf1;rp-5;ra-1p-5");
        Doc.due("both have it", desk.most(0), 2);
        pull(desk, 1, 0, 1);
        Doc.due("two shifts", desk.rule(4), 2);
        // First rope 1 of 1 and 2 leaves, by -5; then rope 0 of 0 and 2, by -9 halves.
        desk = Check.moored("sf1;rk9;rp-5;ra-1p-5");
        Doc.due("rope 2 is left", desk.most(0), 4);
        Doc.due("three shifts", desk.rule(4), 3);
        // 0 is not below 0.
        desk = Check.moored("sf1;r;ra-1");
        Doc.due("none leaves", desk.most(0), 3);
        Doc.due("one shift", desk.rule(4), 1);
        desk = Check.moored("sf1u9;rp5;ra-1p5");
        desk.wind(1, 0, 0);
        Doc.due("0 does not leave", desk.most(0), 3);
        pull(desk, 0, 0, 1);
        desk.wind(1, 0, 0);
        Doc.due("below 0 does", desk.most(0), 2);
    }

    private static void joins() {
        Doc.says(0, "else, is PULL of any that is in it not, and neither BROKEN nor CAST OFF, above 0, that with the greatest "
            + "(of several the lowest) joins it;");
        MooringDesk desk = Check.moored("sf1u9;rp3;rp5;ra-1");
        // At 2 rope 0 would pull by 1, rope 1 by 3; with rope 1 at 7 halves rope 0 would push.
        desk.wind(-7, 0, 0);
        Doc.due("rope 1 has the greatest", desk.most(0), 6);
        Doc.due("two shifts", desk.rule(4), 2);
        // 0 is not above 0; 1 is.
        desk = Check.moored("sf1u9;rp3;ra-1");
        desk.wind(-6, 0, 0);
        Doc.due("by 0 it does not join", desk.most(0), 2);
        desk.wind(-1, 0, 0);
        Doc.due("by 1 it does", desk.most(0), 3);
        // At 2 both would pull by 3; with the first of both the other pulls by 0, and 0 is not above 0.
        desk = Check.moored("sf1u9;rp5;rk2p7;ra-1");
        desk.wind(-7, 0, 0);
        Doc.due("the lowest joins, the other by 0 does not", desk.most(0), 5);
        pull(desk, 1, 0, 1);
        Doc.due("two shifts", desk.rule(4), 2);
        // The other way about the first one that joins leaves 2 for the other.
        desk = Check.moored("sf1u9;rk2p7;rp5;ra-1");
        desk.wind(-7, 0, 0);
        Doc.due("the lowest joins, then the other", desk.most(0), 7);
        Doc.due("three shifts", desk.rule(4), 3);
        Doc.says(0, "and so on, by the SHIFT anew.");
        Doc.due("7 halves", desk.shift(0, 0), 7);
        Doc.due("7 halves", desk.shift(0, 1), 2);
        Doc.says(0, "neither BROKEN nor CAST OFF, above 0,");
        desk = Check.moored("sf1;rp5;ra-1p5;rp40");
        desk.cast(2);
        desk.wind(1, 0, 0);
        Doc.due("cast off", desk.rope(2, 8), 3);
        Doc.due("one shift", desk.rule(4), 1);
        // At 18 rope 2 joins, pulls above 2, and breaks; its pull would be above 0 by all that follows.
        desk = Check.moored("sf1;rp5;ra-1p5;ra-1p-3t2");
        Doc.due("slack", desk.rope(2, 8), 1);
        Doc.due("rope 2 breaks", desk.wind(18, 0, 0), 4);
        Doc.due("taut", desk.most(0), 2);
        desk.wind(1, 0, 0);
        Doc.due("broken still", desk.rope(2, 8), 2);
        Doc.due("one shift", desk.rule(4), 1);
    }

    private static void leavesAheadOfJoining() {
        Doc.says(0, "leaves the SET; else,");
        // At 12 rope 0 would push by 1, rope 2 would pull by 3. Were rope 2 taken first, rope 0 would stay, by 0.
        MooringDesk desk = Check.moored("sf1;rp5;ra-1p5;ra-1p-3");
        Doc.due("0 and 1", desk.most(0), 3);
        desk.wind(12, 0, 0);
        Doc.due("1 and 2", desk.most(0), 6);
        pull(desk, 0, 0, 1);
        Doc.due("three shifts", desk.rule(4), 3);
    }

    private static void roundForEver() {
        Doc.says(0, "Would it go on by a SET that it went by already since it began,");
        for (String[] round : Rounds.ACTS) {
            MooringDesk desk = Rounds.refused(round);
            Doc.due(round[0], desk.status(4), 1);
        }
        for (String text : Rounds.TEXTS) {
            Doc.due(text, Check.tell(new MooringDesk(), 0, text), -2);
        }
        Doc.says(0, "or since the last one BROKE, it goes ROUND FOR EVER.");
        // Behind a break these go by a set that they went by ahead of it.
        Doc.due("as it is told", Check.tell(new MooringDesk(), 0,
            "sf1;rk9p25t34;rk3a-1p-36t7;rk4a-1p-1t29;ra2p36t25;rk9p21;rk2p31"), 6);
        MooringDesk desk = Check.moored("sf1;rk7a-1p-27t9;rk6p34t22;rk7a-1p-8;rk3a4p14;rk7a4p-10t55");
        Doc.due("by wind", desk.wind(37, 0, 0), 1);
        // And these go round behind a break.
        for (String[] round : Rounds.BEHIND_A_BREAK) {
            desk = Rounds.refused(round);
            Doc.due(round[0], desk.status(4), 1);
            Doc.due(round[0] + " broke", desk.cause(1) > 200, true);
        }
    }

    private static void breaks() {
        Doc.says(0, "Is there none of both: has any of the SET a PULL above its STRENGTH,");
        MooringDesk desk = Check.moored("sf1;r;ra-1t9;ra-1");
        Doc.due("9 by 9", desk.wind(18, 0, 0), 0);
        pull(desk, 1, 9, 1);
        Doc.due("19 halves by 9", desk.wind(1, 0, 0), 2);
        // By the first shift rope 0 would break, by 35 thirds; but rope 2 is to leave first, and then it does not.
        desk = Check.moored("sf1u4;ra-1p10t9;rp2;ra-1p-9");
        Doc.due("only behind those that leave and join", desk.most(2), 0);
        pull(desk, 0, 8, 1);
        // By rope 1 alone 12 would be above 11; but rope 2 joins first.
        desk = Check.moored("sf1;rp5;ra-1p5t11;ra-1p-3");
        Doc.due("only behind those that join", desk.wind(12, 0, 0), 0);
        pull(desk, 1, 10, 1);
    }

    private static void breaksByLoad() {
        Doc.says(0, "that whose PULL by STRENGTH is greatest (of several the lowest) is BROKEN, and leaves the SET; and so on.");
        // 50: pulls of 5, 10, 35; 10 by 8 is as much as 5 by 4.
        order(Check.moored("sf1;r;ra-1t4;ra-1k2t8;ra-1k7t999"), 50, 1, 2);
        order(Check.moored("sf1;r;ra-1k2t8;ra-1t4;ra-1k7t999"), 50, 1, 2);
        order(Check.moored("sf1;r;ra-1t4;ra-1k2t7;ra-1k7t999"), 50, 2, 1);
        order(Check.moored("sf1;r;ra-1k2t8;ra-1t3;ra-1k7t999"), 50, 2, 1);
        // 10 is 3 above 7, 5 is just 2 above 3: by load, not by how much.
        order(Check.moored("sf1;r;ra-1k2t7;ra-1t3;ra-1k7t999"), 50, 2, 1);
        // Just the worst one breaks: with it gone the other does not pull at all.
        MooringDesk desk = Check.moored("sf1;rp9t5;ra-1p9t5");
        Doc.due("rope 0 of both", desk.most(2), 1);
        pull(desk, 1, 0, 1);
        desk = Check.moored("sf1;rp9t5;ra-1p9t4");
        Doc.due("rope 1 is worse", desk.most(2), 2);
        pull(desk, 0, 0, 1);
        // Behind a break ropes join again: rope 1 breaks by 10, rope 2 bears all 12.
        desk = Check.moored("sf1;rp5;ra-1p5t8;ra-1p-3");
        Doc.due("rope 1", desk.wind(12, 0, 0), 2);
        pull(desk, 2, 12, 1);
        Doc.due("four shifts", desk.rule(4), 4);
    }

    private static void order(MooringDesk desk, int along, int... ropes) {
        for (int i = 0; i < ropes.length; i++) {
            Doc.due("as number " + i, desk.fall(along, 0, 0, i, 0), ropes[i]);
        }
        Doc.due("no more", desk.fall(along, 0, 0, ropes.length, 1) == 1, false);
    }

    private static void statesAndTries() {
        Doc.says(0, "Else those of the SET are TAUT, all others that are neither BROKEN nor CAST OFF are SLACK.");
        MooringDesk desk = Check.moored("sf1u5;ra-1;r;ra-1t1;ra-1;r");
        desk.cast(3);
        desk.cast(4);
        int[] states = {0, 1, 2, 3, 3};
        for (int rope = 0; rope < states.length; rope++) {
            Doc.due("rope " + rope, desk.rope(rope, 8), states[rope]);
        }
        Doc.says(0, "TRIES are how many SHIFTS were solved.");
        Doc.due("none leaves nor joins", Check.moored("sf1;rp5;ra-1p5").rule(4), 1);
        Doc.due("one leaves", Check.moored("sf1;rp5;ra-1p5;ra-1p-3").rule(4), 2);
        Doc.due("one breaks", Check.moored("sf1;rp9t5;ra-1p9t5").rule(4), 2);
        // 12 by ropes 1 to 3, of which two break one behind the other, and rope 0 leaves ahead of that.
        Doc.due("one leaves, two break", Check.moored("sf1u12;r;ra-1t1;ra-1t2;ra-1").rule(4), 4);
    }

    private static void told() {
        Doc.says(0, "A MOORING that is told: all its ROPES are TAUT, then it SETTLES;");
        // Rope 1, slack of the former mooring, is taut at first of this one.
        MooringDesk desk = Check.moored("sf1u9;ra-1;r");
        Doc.due("slack", desk.rope(1, 8), 1);
        Check.tell(desk, 0, "sf1;rp5;ra-1p5");
        Doc.due("taut", desk.most(0), 3);
        Doc.due("one shift", desk.rule(4), 1);
        Doc.says(0, "can it not, all stays as it was (but the TAPE).");
        for (String text : new String[] {"sf3;r;ra-1", "sf1u1;r", Rounds.TEXTS[0]}) {
            Seen.allSameBehind(text, SettleSentences::busy, d -> Doc.due("can't be", Check.tell(d, 0, text), -2));
            desk = busy();
            Check.tell(desk, 0, text);
            Doc.due("the tape is empty", desk.count(2), 0);
        }
    }

    /** A desk with something of all: acts, a log, refusals, a script, an image. */
    static MooringDesk busy() {
        MooringDesk desk = Check.moored("sf1u3;rp5;ra-1p5;ra-1t3;r");
        Check.tell(desk, 1, "w1,0,0;h0:2");
        desk.wind(2, 1, 1);
        desk.cast(9);
        desk.winch(1, 2);
        desk.image();
        desk.perform(0);
        desk.wind(9, 0, 0);
        desk.cast(3);
        desk.cast(3);
        return desk;
    }
}
