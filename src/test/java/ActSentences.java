/** ==== 2 of the terms, second part: acts by hand, what is refused and why, the log. */
final class ActSentences {
    private static final int HIDDEN = MooringDesk.HIDDEN;
    /** As in Rounds, but nothing holds the ship by the last one. */
    private static final String[][] ADRIFT = {{"sf1u5;ra-1;ra-1t1", "w0,3,4", "h0:1", "w-6,0,0"},
        {"sf1u5;ra-1;ra-1t1", "w0,3,4", "h0:1", "c0"}, {"sf1u-4;rp5t9;ra-1p5", "w0,3,4", "h0:9"},
        {"sf1u-4;rp5t9;ra-1p5;ra-1p8", "c2", "h0:1", "n2"}, {"sf3;rp5;ra0b1p5", "w-1,-1,0", "c1"},
        {"sf3;rp5;ra0b1p5", "w-1,-1,0", "w0,2,0"}};

    private ActSentences() {
    }

    static void all() {
        wind();
        winch();
        castAndRenew();
        cannotSettle();
        undone();
        statusOfEach();
        firstOfSeveral();
        notUndone();
        causesLatest();
        causes();
        log();
        refusedChangesNothing();
    }

    private static MooringDesk pair() {
        return Check.moored("sf1;rp5;ra-1p5");
    }

    /** The wind on one axis is brought as far as this. */
    private static MooringDesk windAt(int axis, int value) {
        MooringDesk desk = pair();
        int most = axis == 2 ? 999 : 99;
        int left = value;
        for (int i = 0; i < 20 && left != 0; i++) {
            int part = Math.max(-most, Math.min(most, left));
            Check.due("wind", desk.wind(axis == 0 ? part : 0, axis == 1 ? part : 0, axis == 2 ? part : 0), 0);
            left -= part;
        }
        return desk;
    }

    private static int blow(MooringDesk desk, int axis, int by) {
        return desk.wind(axis == 0 ? by : 0, axis == 1 ? by : 0, axis == 2 ? by : 0);
    }

    private static void wind() {
        Doc.says(0, "By hand: WIND comes (three parts are added; along, across -999 .. 999, round -9,999 .. 9,999 as they are then),");
        MooringDesk added = pair();
        added.wind(1, -2, 3);
        added.wind(4, -5, -7);
        int[] sums = {5, -7, -4};
        int[] most = {999, 999, 9999};
        for (int axis = 0; axis <= 2; axis++) {
            Doc.due("added on " + axis, added.rule(1 + axis), sums[axis]);
            for (int sign : new int[] {-1, 1}) {
                MooringDesk desk = windAt(axis, sign * (most[axis] - 1));
                int a = axis;
                Refused.due("two more", desk, () -> blow(desk, a, 2 * sign), 100, 1);
                Doc.due("one more", blow(desk, axis, sign), 0);
                Doc.due("the bound", desk.rule(1 + axis), sign * most[axis]);
                Refused.due("beyond", desk, () -> blow(desk, a, sign), 100, 1);
                Doc.due("it stays", desk.rule(1 + axis), sign * most[axis]);
                Doc.due("back", blow(desk, axis, -sign), 0);
            }
        }
    }

    private static void winch() {
        Doc.says(0, "a WINCH of a ROPE is turned by n (p is STIFFNESS times n more; -999 .. 999 then),");
        MooringDesk desk = Check.moored("sf1;rk9p50;ra-1k3p-50");
        desk.winch(0, 9);
        Doc.due("nine times nine", desk.rope(0, 7), 131);
        desk.winch(0, -1);
        Doc.due("nine less", desk.rope(0, 7), 122);
        desk.winch(1, 7);
        Doc.due("three times seven", desk.rope(1, 7), -29);
        for (int sign : new int[] {-1, 1}) {
            // Rope 1 is let out or taken in; rope 0 holds it, and takes what it pulls.
            MooringDesk far = Check.moored("sf1u-1;r;ra-1p" + 9 * sign);
            for (int i = 0; i < 110; i++) {
                Check.due("winch", far.winch(1, 9 * sign), 0);
            }
            Doc.due("999", far.rope(1, 7), 999 * sign);
            Refused.due("1,000", far, () -> far.winch(1, sign), 101, 1);
            Doc.due("it stays", far.rope(1, 7), 999 * sign);
            Doc.due("back by one", far.winch(1, -sign), 0);
            Doc.due("998", far.rope(1, 7), 998 * sign);
            Refused.due("by two", far, () -> far.winch(1, 2 * sign), 101, 1);
            Doc.due("by one", far.winch(1, sign), 0);
        }
    }

    private static void castAndRenew() {
        Doc.says(0, "a ROPE is CAST OFF (it was neither BROKEN nor that),");
        MooringDesk desk = Check.moored("sf1u5;ra-1;r;ra-1t1;ra-1");
        Doc.due("taut", desk.cast(3), 0);
        Doc.due("slack", desk.cast(1), 0);
        Refused.due("broken", desk, () -> desk.cast(2), 102, 2);
        Refused.due("cast off", desk, () -> desk.cast(1), 102, 2);
        Doc.due("broken still", desk.rope(2, 8), 2);
        Doc.says(0, "RENEWED (it was BROKEN or CAST OFF: p is as told, it is TAUT).");
        MooringDesk other = Check.moored("sf1;rp5;ra-1p5;ra-1p4t7;ra-1p3");
        other.winch(2, 1);
        other.winch(3, 4);
        other.cast(3);
        Doc.due("p as it was", other.rope(3, 7), 7);
        Doc.due("cast off", other.renew(3), 0);
        Doc.due("p as told", other.rope(3, 7), 3);
        Doc.due("taut", other.rope(3, 8), 0);
        Refused.due("taut", other, () -> other.renew(3), 103, 2);
        Doc.due("breaks", other.winch(2, 9), 4);
        Doc.due("p as it was", other.rope(2, 7), 14);
        Doc.due("broken", other.renew(2), 0);
        Doc.due("p as told", other.rope(2, 7), 4);
        Doc.due("taut", other.rope(2, 8), 0);
        // At first it is taut; by the shift it may leave, or break at once.
        Doc.due("slack", desk.renew(1), 0);
        Doc.due("left again", desk.rope(1, 8), 1);
        Doc.due("two shifts", desk.rule(4), 2);
        Refused.due("slack", desk, () -> desk.renew(1), 103, 2);
        Doc.due("broken", desk.renew(2), 4);
        Doc.due("broken again", desk.rope(2, 8), 2);
    }

    private static void cannotSettle() {
        Doc.says(0, "Then it SETTLES; can it not, all is as it was ahead of it, and it is refused.");
        for (String[] adrift : ADRIFT) {
            String last = adrift[adrift.length - 1];
            Seen.sameBehind(last, () -> Rounds.ahead(adrift), d -> Doc.due("refused", Rounds.act(d, last), -1));
            Doc.due(last + " is adrift", Rounds.refused(adrift).status(3), 1);
        }
        for (String[] round : Rounds.ACTS) {
            String last = round[round.length - 1];
            Seen.sameBehind(last, () -> Rounds.ahead(round), d -> Doc.due("refused", Rounds.act(d, last), -1));
        }
    }

    private static void undone() {
        Doc.says(0, "All these are ACTS: the latest 40 can be UNDONE one by one (the LOG, too).");
        for (String step : new String[] {"w1,0,0", "h0:1", "c2", "n3"}) {
            MooringDesk desk = Check.moored("sf1;rp5;ra-1p5;r;ra-1p1");
            desk.cast(3);
            java.util.List<Long> ahead = Seen.of(desk);
            Doc.due(step, Rounds.act(desk, step), 0);
            Doc.due(step + " can be undone", desk.count(4), 2);
            Doc.due(step + " is undone", desk.undo(), 1);
            Doc.due("as it was", Seen.of(desk).equals(ahead), true);
        }
        for (int acts = 39; acts <= 42; acts++) {
            MooringDesk desk = pair();
            for (int i = 0; i < acts; i++) {
                desk.wind(0, 1, 0);
            }
            int undoable = Math.min(40, acts);
            Doc.due("of " + acts, desk.count(4), undoable);
            for (int left = undoable - 1; left >= 0; left--) {
                Doc.due("one by one", desk.undo(), left);
                Doc.due("wind", desk.rule(2), acts - undoable + left);
                Doc.due("the log, too", desk.count(3), acts - undoable + left);
            }
            Doc.due("no more", desk.undo(), -1);
            Doc.due("what stands", desk.rule(2), acts - undoable);
        }
    }

    private static void statusOfEach() {
        Doc.says(0, "STATUS: how many ACTS were refused as there was no such one, no MOORING (0),");
        MooringDesk none = new MooringDesk();
        Refused.due("no mooring", none, () -> none.wind(1, 0, 0), 100, 0);
        Refused.due("no mooring", none, () -> none.winch(0, 1), 101, 0);
        Refused.due("no mooring", none, () -> none.cast(0), 102, 0);
        Refused.due("no mooring", none, () -> none.renew(0), 103, 0);
        Refused.due("no mooring", none, () -> none.perform(0), 0);
        MooringDesk desk = Check.moored("sf1;rp5;ra-1p5;ra-1t1");
        for (int rope : new int[] {-1, 3, 8, 31, 32, 33, Integer.MIN_VALUE, Integer.MAX_VALUE}) {
            Refused.due("no such rope", desk, () -> desk.winch(rope, 1), 101, 0);
            Refused.due("no such rope", desk, () -> desk.cast(rope), 102, 0);
            Refused.due("no such rope", desk, () -> desk.renew(rope), 103, 0);
        }
        Doc.says(0, "out of bounds, WIND or p would be (1),");
        Refused.due("out of bounds", desk, () -> desk.wind(100, 0, 0), 100, 1);
        Refused.due("out of bounds", desk, () -> desk.winch(0, 10), 101, 1);
        MooringDesk far = windAt(1, 999);
        Refused.due("wind would be", far, () -> far.wind(0, 1, 0), 100, 1);
        Doc.says(0, "it is so, nothing changes by it (2),");
        Refused.due("no wind", desk, () -> desk.wind(0, 0, 0), 100, 2);
        Refused.due("no turn", desk, () -> desk.winch(0, 0), 101, 2);
        Refused.due("taut already", desk, () -> desk.renew(0), 103, 2);
        desk.cast(2);
        Refused.due("cast off already", desk, () -> desk.cast(2), 102, 2);
        Refused.due("a winch of what is cast off", desk, () -> desk.winch(2, 1), 101, 2);
        Doc.says(0, "ADRIFT (3),");
        MooringDesk one = Check.moored("sf1u5;ra-1;r");
        Refused.due("what holds it", one, () -> one.cast(0), 102, 200, 3);
        MooringDesk light = Check.moored("sf1u5;ra-1");
        Refused.due("it would push", light, () -> light.wind(-6, 0, 0), 100, 200, 3);
        MooringDesk taut = Check.moored("sf1u-4;rp5t9;ra-1p5");
        Refused.due("rope 0 breaks, rope 1 would push", taut, () -> taut.winch(0, 9), 101, 201, 3);
        MooringDesk again = Rounds.ahead(ADRIFT[3]);
        Refused.due("rope 0 breaks, the others would push", again, () -> again.renew(2), 103, 201, 3);
        Doc.says(0, "ROUND FOR EVER (4);");
        for (String[] round : Rounds.ACTS) {
            MooringDesk ahead = Rounds.ahead(round);
            String last = round[round.length - 1];
            Refused.due(last, ahead, () -> Rounds.act(ahead, last), 100 + "whcn".indexOf(last.charAt(0)), 200, 4);
        }
    }

    private static void firstOfSeveral() {
        Doc.says(0, "of several the first;");
        MooringDesk none = new MooringDesk();
        Refused.due("no mooring, out of bounds", none, () -> none.wind(100, 0, 0), 100, 0);
        Refused.due("no mooring, nothing changes", none, () -> none.wind(0, 0, 0), 100, 0);
        Refused.due("no mooring, out of bounds", none, () -> none.winch(0, 10), 101, 0);
        MooringDesk desk = Check.moored("sf1;rp5;ra-1p5;ra-1k9p50");
        Refused.due("no such rope, out of bounds", desk, () -> desk.winch(3, 10), 101, 0);
        Refused.due("no such rope, nothing changes", desk, () -> desk.winch(3, 0), 101, 0);
        for (int i = 0; i < 11; i++) {
            desk.winch(2, 9);
        }
        Doc.due("p", desk.rope(2, 7), 941);
        desk.cast(2);
        Refused.due("out of bounds, cast off", desk, () -> desk.winch(2, 10), 101, 1);
        Refused.due("p would be, cast off", desk, () -> desk.winch(2, 7), 101, 1);
        Refused.due("cast off alone", desk, () -> desk.winch(2, 6), 101, 2);
        Refused.due("cast off, no turn", desk, () -> desk.winch(2, 0), 101, 2);
        MooringDesk light = Check.moored("sf1u-9;rp5;ra-1p5");
        for (int i = 0; i < 10; i++) {
            light.wind(0, 99, 0);
        }
        Refused.due("wind would be, and adrift by it", light, () -> light.wind(99, 99, 0), 100, 1);
    }

    private static void notUndone() {
        Doc.says(0, "not UNDONE.");
        MooringDesk desk = pair();
        desk.wind(1, 0, 0);
        desk.cast(9);
        desk.wind(0, 0, 0);
        desk.undo();
        Doc.due("status 0", desk.status(0), 1);
        Doc.due("status 2", desk.status(2), 1);
        desk.undo();
        Doc.due("status 2, nothing to undo", desk.status(2), 1);
    }

    private static void causesLatest() {
        Doc.says(0, "CAUSES of what was refused latest (a MOORING told leaves them, UNDO, too):");
        MooringDesk desk = pair();
        Refused.causes("nothing was refused", desk);
        desk.cast(9);
        Refused.causes("a cast", desk, 102, 0);
        desk.wind(100, 0, 0);
        Refused.causes("a wind", desk, 100, 1);
        desk.wind(1, 0, 0);
        Refused.causes("what can be leaves them", desk, 100, 1);
        desk.undo();
        Refused.causes("an undo", desk, 100, 1);
        desk.undo();
        Refused.causes("an undo of none", desk, 100, 1);
        Check.tell(desk, 0, "sf1;rp6;ra-1p6");
        Refused.causes("a mooring told", desk, 100, 1);
        Doc.due("a mooring that can't be", Check.tell(desk, 0, "sf3;r"), -2);
        Refused.causes("a mooring that can't be", desk, 100, 1);
        Doc.due("a fault", Check.tell(desk, 0, "x"), -1);
        Refused.causes("a fault", desk, 100, 1);
        desk.image();
        desk.back();
        Refused.causes("an image", desk, 100, 1);
        desk.years(40, 5);
        Refused.causes("years", desk, 100, 1);
    }

    private static void causes() {
        Doc.says(0, "by DO first 1,000 and the STEP (from 0);");
        MooringDesk desk = pair();
        Check.tell(desk, 1, "c9;c9");
        Check.tell(desk, 1, "w0,1,0;w0,1,0;w0,1,0;w0,1,0;w0,1,0;w0,1,0;w0,1,0;w0,1,0;w0,1,0;w0,1,0;w0,1,0;w0,1,0;w0,1,0;"
            + "w0,1,0;w0,1,0;w0,0,0");
        Refused.due("the first step", desk, () -> desk.perform(0), 1000, 102, 0);
        Refused.due("the last step", desk, () -> desk.perform(1), 1015, 100, 2);
        Doc.says(0, "100 and the sort of the ACT: 0 WIND, 1 WINCH, 2 CAST OFF, 3 RENEW;");
        Refused.due("wind", desk, () -> desk.wind(0, 0, 0), 100, 2);
        Refused.due("winch", desk, () -> desk.winch(0, 0), 101, 2);
        Refused.due("cast", desk, () -> desk.cast(2), 102, 0);
        Refused.due("renew", desk, () -> desk.renew(0), 103, 2);
        Check.tell(desk, 1, "h0:0");
        Check.tell(desk, 1, "n0");
        Refused.due("a winch of a script", desk, () -> desk.perform(2), 1000, 101, 2);
        Refused.due("a renew of a script", desk, () -> desk.perform(3), 1000, 103, 2);
        Doc.says(0, "as it was to SETTLE: 200 and how many had BROKEN by then;");
        MooringDesk eight = Check.moored("sf1;ra-1t1;ra-1t1;ra-1t1;ra-1t1;ra-1t1;ra-1t1;ra-1t1;ra-1t1");
        Refused.due("all eight", eight, () -> eight.wind(99, 0, 0), 100, 208, 3);
        Doc.due("they hold again", eight.most(0), 255);
        Refused.due("none", eight, () -> eight.wind(-1, 0, 0), 100, 200, 3);
        MooringDesk two = Check.moored("sf1;rp2;ra-1t3;ra-1t2");
        Refused.due("two", two, () -> two.wind(50, 0, 0), 100, 202, 3);
        for (String[] round : Rounds.BEHIND_A_BREAK) {
            MooringDesk ahead = Rounds.ahead(round);
            Refused.due("one", ahead, () -> Rounds.act(ahead, round[round.length - 1]), 101, 201, 4);
        }
        // What broke by acts ahead of it is not counted.
        MooringDesk earlier = Check.moored("sf1u5;ra-1;r;ra-1t1");
        Doc.due("rope 2 is broken", earlier.most(2), 4);
        Refused.due("none by this one", earlier, () -> earlier.cast(0), 102, 200, 3);
        Check.tell(earlier, 1, "n2;c0");
        Refused.due("none by this step", earlier, () -> earlier.perform(0), 1001, 102, 200, 3);
        Doc.says(0, "last the reason, as in STATUS.");
        Refused.due("0", desk, () -> desk.cast(2), 102, 0);
        Refused.due("1", desk, () -> desk.winch(1, 10), 101, 1);
        Refused.due("2", desk, () -> desk.wind(0, 0, 0), 100, 2);
        Refused.due("3", two, () -> two.wind(50, 0, 0), 100, 202, 3);
    }

    private static void line(MooringDesk desk, int i, int sort, int rope, int broke) {
        Doc.due("line " + i, desk.log(i, 0), sort);
        Doc.due("line " + i, desk.log(i, 1), rope);
        Doc.due("line " + i, desk.log(i, 2), broke);
    }

    private static void log() {
        Doc.says(0, "The LOG: of each ACT its sort, the ROPE (WIND: NONE), the ROPES that BROKE by it (bits): the latest 60.");
        MooringDesk desk = Check.moored("sf1;r;ra-1t2;ra-1t2;ra-1t2;ra-1t2;ra-1t2;ra-1t2;ra-1");
        desk.wind(21, 0, 0);
        line(desk, 0, 0, -1, 126);
        desk.renew(6);
        line(desk, 0, 3, 6, 64);
        desk.wind(-20, 0, 0);
        desk.renew(1);
        line(desk, 0, 3, 1, 0);
        desk.winch(7, 1);
        line(desk, 0, 1, 7, 0);
        desk.cast(0);
        line(desk, 0, 2, 0, 0);
        line(desk, 5, 0, -1, 126);
        Doc.due("six", desk.count(3), 6);
        desk.cast(0);
        Doc.due("what is refused is not in it", desk.count(3), 6);
        Doc.due("none ahead", desk.log(6, 0), HIDDEN);
        for (int i = 0; i < 54; i++) {
            desk.wind(0, 1, 0);
        }
        Doc.due("sixty", desk.count(3), 60);
        line(desk, 59, 0, -1, 126);
        desk.wind(0, 1, 0);
        Doc.due("sixty still", desk.count(3), 60);
        line(desk, 59, 3, 6, 64);
        Doc.due("no 61st", desk.log(60, 0), HIDDEN);
        desk.undo();
        line(desk, 59, 0, -1, 126);
        longestUndone();
    }

    /** Forty scripts of sixteen steps undone, behind one that fails at its sixteenth: sixty older lines come to light. */
    private static void longestUndone() {
        MooringDesk desk = Check.moored("sf1;rp5;ra-1p5;ra-1p5;ra-1p5");
        int[][] ropes = new int[4][16];
        for (int script = 0; script < 4; script++) {
            StringBuilder text = new StringBuilder();
            for (int i = 0; i < 16; i++) {
                ropes[script][i] = script == 3 ? 0 : (i / (script + 1) + script) % 4;
                boolean isLast = script == 3 && i == 15;
                text.append(i > 0 ? ";h" : "h").append(isLast ? 9 : ropes[script][i]).append(i % 2 == 0 ? ":1" : ":-1");
            }
            Doc.due("script " + script, Check.tell(desk, 1, text.toString()), script);
        }
        for (int i = 0; i < 44; i++) {
            Check.due("done", desk.perform(i % 3), 16);
        }
        Doc.due("its sixteenth", desk.perform(3), -1);
        for (int left = 39; left >= 0; left--) {
            Check.due("undone", desk.undo(), left);
        }
        Doc.due("sixty of 64 lines", desk.count(3), 60);
        for (int i = 0; i < 60; i++) {
            int number = 63 - i;
            line(desk, i, 1, ropes[number / 16 % 3][number % 16], 0);
        }
    }

    private static void refusedChangesNothing() {
        Doc.says(0, "What is refused answers as told and changes nothing but STATUS and CAUSES.");
        for (String step : new String[] {"w100,0,0", "w0,0,0", "w0,0,1000", "h0:10", "h0:0", "h9:1", "c9", "c3", "n9",
            "n0"}) {
            Seen.sameBehind(step, SettleSentences::busy, d -> Doc.due(step, Rounds.act(d, step), -1));
        }
        Seen.sameBehind("perform", SettleSentences::busy, d -> Doc.due("no such script", d.perform(1), -1));
        Seen.sameBehind("perform", ActSentences::busyWithScripts, d -> Doc.due("the second step", d.perform(1), -1));
        Seen.allSameBehind("years", SettleSentences::busy, d -> Doc.due("out of bounds", d.years(41, 1), -1));
        Seen.allSameBehind("years", SettleSentences::busy, d -> Doc.due("out of bounds", d.years(0, 1), -1));
        Seen.allSameBehind("feed", ActSentences::fed, d -> Doc.due("241", d.feed(1, 0, 0, 0, 0), -1));
        Seen.allSameBehind("end", ActSentences::fed, d -> Doc.due("241", d.end(241), false));
        Seen.allSameBehind("end", ActSentences::fed, d -> Doc.due("-1", d.end(-1), false));
        Seen.allSameBehind("text", ActSentences::fed, d -> Doc.due("a fault", d.text(0), -1));
        Seen.allSameBehind("text", ActSentences::fed, d -> Doc.due("a fault", d.text(1), -1));
        Seen.allSameBehind("text", ActSentences::fed, d -> Doc.due("no such sort", d.text(2), -1));
        Seen.allSameBehind("fault", ActSentences::fed, d -> Doc.due("no such sort", d.fault(2), -2));
    }

    private static MooringDesk busyWithScripts() {
        MooringDesk desk = SettleSentences.busy();
        Check.tell(desk, 1, "w1,0,0;h0:1;c0;n0;c9");
        return desk;
    }

    /** With a full tape that is a fault both ways. */
    private static MooringDesk fed() {
        MooringDesk desk = SettleSentences.busy();
        Check.feed(desk, "rk".repeat(120));
        return desk;
    }
}
