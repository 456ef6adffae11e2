/** Promises 13 to 20, 22, 23, 36, 38 and 39, sentence by sentence: acts, refusals, undo, the log, scripts, years, images. */
final class ActPromises {
    private static final int HIDDEN = MooringDesk.HIDDEN;

    private ActPromises() {
    }

    static void all() {
        wind();
        winch();
        cast();
        renew();
        status();
        cause();
        undo();
        log();
        run();
        perform();
        years();
        image();
        back();
    }

    private static MooringDesk pair() {
        return Check.moored("sf1;rp5;ra-1p5");
    }

    /** Rope 0 taut, 1 slack, 2 broken, 3 cast off. */
    private static MooringDesk four() {
        MooringDesk desk = Check.moored("sf1u5;ra-1;r;ra-1t1;ra-1");
        desk.cast(3);
        return desk;
    }

    private static void rounds(int sort) {
        int seen = 0;
        for (String[] round : Rounds.ACTS) {
            String last = round[round.length - 1];
            if ("whcn".indexOf(last.charAt(0)) == sort) {
                MooringDesk desk = Rounds.ahead(round);
                Refused.due("round for ever", desk, () -> Rounds.act(desk, last), 100 + sort, 200, 4);
                seen++;
            }
        }
        Doc.due("there is one", seen > 0, true);
    }

    private static void wind() {
        Doc.says(13, "WIND: ROPES that BREAK by it (bits).");
        MooringDesk desk = Check.moored("sf1;r;ra-1t1;ra-1t999;ra-1t2;ra-1t1");
        Doc.due("none", desk.wind(4, 0, 0), 0);
        Doc.due("1, 3 and 4", desk.wind(8, 0, 0), 26);
        Doc.due("none of these again", desk.wind(1, 0, 0), 0);
        Doc.says(13, "NONE: no MOORING (STATUS 0),");
        MooringDesk none = new MooringDesk();
        Refused.due("no mooring", none, () -> none.wind(1, 0, 0), 100, 0);
        Doc.says(13, "a part out of bounds, it would be (1),");
        MooringDesk pair = pair();
        for (int part : Wrong.of(-99, 99)) {
            Refused.due("along " + part, pair, () -> pair.wind(part, 0, 0), 100, 1);
            Refused.due("across " + part, pair, () -> pair.wind(0, part, 0), 100, 1);
        }
        for (int part : Wrong.of(-999, 999)) {
            Refused.due("round " + part, pair, () -> pair.wind(0, 0, part), 100, 1);
        }
        Doc.due("none of these came", pair.count(3), 0);
        Doc.due("as far as it goes", pair.wind(99, -99, 999), 0);
        Doc.due("and back", pair.wind(-99, 99, -999), 0);
        Doc.due("the other way", pair.wind(-99, 99, -999), 0);
        for (int i = 0; i < 9; i++) {
            pair.wind(0, 99, -999);
        }
        Refused.due("across would be", pair, () -> pair.wind(0, 10, 0), 100, 1);
        Refused.due("round would be", pair, () -> pair.wind(0, 0, -10), 100, 1);
        Doc.due("just not", pair.wind(0, 9, -9), 0);
        Doc.says(13, "all are 0 (2),");
        Refused.due("all are 0", pair, () -> pair.wind(0, 0, 0), 100, 2);
        Doc.due("one is not", pair.wind(0, 0, 1), 0);
        Doc.says(13, "ADRIFT (3),");
        MooringDesk light = Check.moored("sf1u5;ra-1");
        Doc.due("just held", light.wind(-5, 0, 0), 0);
        Refused.due("adrift", light, () -> light.wind(-1, 0, 0), 100, 200, 3);
        Doc.says(13, "ROUND FOR EVER (4).");
        rounds(0);
    }

    private static void winch() {
        Doc.says(14, "WINCH: likewise.");
        Doc.due("rope 1", Check.moored("sf1;rp5t6;ra-1p5t6;r").winch(1, 3), 2);
        Doc.due("none", pair().winch(1, 3), 0);
        Doc.says(14, "NONE: no such ROPE (STATUS 0),");
        MooringDesk four = four();
        for (int rope : Wrong.of(0, 3)) {
            Refused.due("rope " + rope, four, () -> four.winch(rope, 1), 101, 0);
        }
        MooringDesk none = new MooringDesk();
        Refused.due("no mooring", none, () -> none.winch(0, 1), 101, 0);
        Doc.says(14, "n not -9 .. 9,");
        for (int n : Wrong.of(-9, 9)) {
            Refused.due("n " + n, four, () -> four.winch(0, n), 101, 1);
        }
        Doc.due("-9", four.winch(0, -9), 0);
        Doc.due("9", four.winch(0, 9), 0);
        Doc.says(14, "p would be out of bounds (1),");
        MooringDesk far = Check.moored("sf1u5;ra-1k9;r");
        for (int i = 0; i < 12; i++) {
            far.winch(0, 9);
        }
        Doc.due("p", far.rope(0, 7), 972);
        Refused.due("1,008", far, () -> far.winch(0, 4), 101, 1);
        Doc.due("999", far.winch(0, 3), 0);
        Doc.says(14, "n is 0, the ROPE is BROKEN or CAST OFF (2),");
        Refused.due("0", four, () -> four.winch(0, 0), 101, 2);
        Refused.due("broken", four, () -> four.winch(2, 1), 101, 2);
        Refused.due("cast off", four, () -> four.winch(3, 1), 101, 2);
        Doc.due("a slack one can be", four.winch(1, -1), 0);
        Doc.says(14, "ADRIFT (3),");
        MooringDesk taut = Check.moored("sf1u-4;rp5t9;ra-1p5");
        Refused.due("adrift", taut, () -> taut.winch(0, 9), 101, 201, 3);
        Doc.says(14, "ROUND FOR EVER (4).");
        rounds(1);
    }

    private static void cast() {
        Doc.says(15, "CAST OFF: likewise.");
        MooringDesk desk = Check.moored("sf1u5;ra-1t2;ra-1t2;ra-1t9;r");
        Doc.due("rope 1 breaks", desk.cast(0), 2);
        Doc.due("none", desk.cast(3), 0);
        Doc.says(15, "NONE: no such ROPE (STATUS 0),");
        MooringDesk four = four();
        for (int rope : Wrong.of(0, 3)) {
            Refused.due("rope " + rope, four, () -> four.cast(rope), 102, 0);
        }
        MooringDesk none = new MooringDesk();
        Refused.due("no mooring", none, () -> none.cast(0), 102, 0);
        Doc.says(15, "it is BROKEN or CAST OFF (2),");
        Refused.due("broken", four, () -> four.cast(2), 102, 2);
        Refused.due("cast off", four, () -> four.cast(3), 102, 2);
        Doc.says(15, "ADRIFT (3),");
        Refused.due("adrift", four, () -> four.cast(0), 102, 200, 3);
        MooringDesk weak = Check.moored("sf1u5;ra-1t4;ra-1t4;r");
        Refused.due("the other breaks", weak, () -> weak.cast(0), 102, 201, 3);
        Doc.says(15, "ROUND FOR EVER (4).");
        rounds(2);
    }

    private static void renew() {
        Doc.says(16, "RENEW: likewise.");
        MooringDesk four = four();
        Doc.due("broken, and breaks by it", four.renew(2), 4);
        Doc.due("cast off", four.renew(3), 0);
        Doc.says(16, "NONE: no such ROPE (STATUS 0),");
        for (int rope : Wrong.of(0, 3)) {
            Refused.due("rope " + rope, four, () -> four.renew(rope), 103, 0);
        }
        MooringDesk none = new MooringDesk();
        Refused.due("no mooring", none, () -> none.renew(0), 103, 0);
        Doc.says(16, "it is neither BROKEN nor CAST OFF (2),");
        Refused.due("taut", four, () -> four.renew(0), 103, 2);
        Refused.due("slack", four, () -> four.renew(1), 103, 2);
        Doc.says(16, "ADRIFT (3),");
        MooringDesk light = Check.moored("sf1u-4;rp5t9;ra-1p5;ra-1p8");
        light.cast(2);
        light.winch(0, 1);
        Refused.due("adrift", light, () -> light.renew(2), 103, 201, 3);
        Doc.says(16, "ROUND FOR EVER (4).");
        rounds(3);
    }

    private static void status() {
        Doc.says(17, "STATUS.");
        MooringDesk desk = Rounds.ahead(Rounds.ACTS[2]);
        for (int i = 0; i < 2; i++) {
            desk.cast(9);
            desk.winch(0, 10);
            desk.winch(0, 0);
            Rounds.act(desk, "h3:-7");
        }
        desk.cast(9);
        int[] want = {3, 2, 2, 0, 2};
        for (int what = 0; what <= 4; what++) {
            Doc.due("what " + what, desk.status(what), want[what]);
        }
        Doc.says(17, "NONE: no such what.");
        for (int what : Wrong.of(0, 4)) {
            Doc.due("what " + what, desk.status(what), -1);
        }
    }

    private static void cause() {
        Doc.says(18, "CAUSES, the first one first.");
        MooringDesk desk = Check.moored("sf1u5;ra-1;r");
        Check.tell(desk, 1, "w1,0,0;c0");
        desk.perform(0);
        int[] want = {1001, 102, 200, 3};
        for (int i = 0; i <= 3; i++) {
            Doc.due("cause " + i, desk.cause(i), want[i]);
        }
        Doc.says(18, "NONE: no such one, nothing was refused.");
        for (int i : Wrong.of(0, 3)) {
            Doc.due("cause " + i, desk.cause(i), -1);
        }
        desk.cast(9);
        Doc.due("of two no third", desk.cause(2), -1);
        desk.perform(9);
        Doc.due("of one", desk.cause(0), 0);
        Doc.due("of one no second", desk.cause(1), -1);
        for (int i = -1; i <= 4; i++) {
            Doc.due("nothing was refused", pair().cause(i), -1);
            Doc.due("nothing was refused", new MooringDesk().cause(i), -1);
        }
    }

    private static void undo() {
        Doc.says(19, "The latest ACT is UNDONE: how many still can be.");
        MooringDesk desk = pair();
        desk.wind(1, 0, 0);
        desk.winch(0, 1);
        desk.wind(0, 0, 0);
        Doc.due("the winch", desk.undo(), 1);
        Doc.due("p", desk.rope(0, 7), 5);
        Doc.due("the wind", desk.undo(), 0);
        Doc.due("wind", desk.rule(1), 0);
        Doc.says(19, "NONE: none.");
        Doc.due("none", desk.undo(), -1);
        Doc.due("none still", desk.undo(), -1);
        Doc.due("no mooring", new MooringDesk().undo(), -1);
        desk.wind(1, 0, 0);
        desk.image();
        desk.back();
        Doc.due("none behind back", desk.undo(), -1);
        desk.wind(1, 0, 0);
        Check.tell(desk, 0, "sf1;r");
        Doc.due("none of another mooring", desk.undo(), -1);
    }

    private static void log() {
        Doc.says(20, "LOG, the latest (i 0), the one ahead of it (1) ..: 0 sort, 1 ROPE, 2 who BROKE.");
        MooringDesk desk = Check.moored("sf1;rp5;ra-1p5;ra-1t1");
        desk.wind(6, 0, 0);
        desk.winch(0, 2);
        desk.cast(0);
        desk.renew(0);
        int[][] want = {{3, 0, 0}, {2, 0, 0}, {1, 0, 0}, {0, -1, 4}};
        for (int i = 0; i <= 3; i++) {
            for (int what = 0; what <= 2; what++) {
                Doc.due("line " + i + ", " + what, desk.log(i, what), want[i][what]);
            }
        }
        Doc.says(20, "HIDDEN: no such ones.");
        for (int i : Wrong.of(0, 3)) {
            Doc.due("line " + i, desk.log(i, 0), HIDDEN);
        }
        for (int what : Wrong.of(0, 2)) {
            Doc.due("what " + what, desk.log(0, what), HIDDEN);
        }
        Doc.due("an empty log", pair().log(0, 0), HIDDEN);
        Doc.due("no mooring", new MooringDesk().log(0, 0), HIDDEN);
        desk.undo();
        Doc.due("undone", desk.log(3, 0), HIDDEN);
        for (int i = 0; i < 70; i++) {
            desk.wind(0, 1, 0);
        }
        Doc.due("the 60th", desk.log(59, 0), 0);
        Doc.due("no 61st", desk.log(60, 0), HIDDEN);
    }

    private static void run() {
        Doc.says(22, "RUN: behind how many (0; NONE: all can be), TAUT ones (1).");
        MooringDesk desk = Check.moored("sf1;rp5;ra-1p5;ra-1t1");
        Check.tell(desk, 1, "c2;w1,0,0");
        Check.tell(desk, 1, "c2;c2");
        Check.tell(desk, 1, "w0,0,0");
        int[][] want = {{-1, 2}, {1, 2}, {0, 3}};
        for (int script = 0; script <= 2; script++) {
            Doc.due("script " + script, desk.run(script, 0), want[script][0]);
            Doc.due("script " + script, desk.run(script, 1), want[script][1]);
        }
        String sixteen = "w0,1,0;".repeat(15);
        Check.tell(desk, 1, sixteen + "c9");
        Doc.due("the last of sixteen", desk.run(3, 0), 15);
        Doc.says(22, "HIDDEN: no such SCRIPT, no MOORING, no such what.");
        for (int script : Wrong.of(0, 3)) {
            Doc.due("script " + script, desk.run(script, 0), HIDDEN);
            Doc.due("script " + script, desk.run(script, 1), HIDDEN);
        }
        for (int what : Wrong.of(0, 1)) {
            Doc.due("what " + what, desk.run(0, what), HIDDEN);
        }
        MooringDesk none = new MooringDesk();
        Check.tell(none, 1, "c0");
        Doc.due("no mooring", none.run(0, 0), HIDDEN);
        Doc.due("no mooring", none.run(0, 1), HIDDEN);
        Seen.allSameBehind("a run", ActPromises::scripted, d -> d.run(0, 0));
    }

    private static MooringDesk scripted() {
        MooringDesk desk = SettleSentences.busy();
        Check.tell(desk, 1, "c0;c1;c2;c9");
        return desk;
    }

    private static void perform() {
        Doc.says(23, "DO: how many STEPS.");
        MooringDesk desk = Check.moored("sf1;rp5;ra-1p5");
        Check.tell(desk, 1, "w0,1,0");
        Check.tell(desk, 1, "w0,1,0" + ";w0,1,0".repeat(15));
        Doc.due("one", desk.perform(0), 1);
        Doc.due("sixteen", desk.perform(1), 16);
        Doc.due("all came", desk.rule(2), 17);
        MooringDesk each = Check.moored("sf1;rk2p5;ra-1k3p5");
        Check.tell(each, 1, "w1,-2,3;h1:-4;h0:5");
        Doc.due("three", each.perform(0), 3);
        Doc.due("along", each.rule(1), 1);
        Doc.due("across", each.rule(2), -2);
        Doc.due("round", each.rule(3), 3);
        Doc.due("rope 0", each.rope(0, 7), 15);
        Doc.due("rope 1", each.rope(1, 7), -7);
        Doc.due("two acts", desk.count(4), 2);
        Doc.due("lines", desk.count(3), 17);
        Doc.says(23, "NONE: no such SCRIPT, no MOORING (STATUS 0, CAUSES 0 alone), one can't be.");
        for (int script : Wrong.of(0, 1)) {
            Refused.due("script " + script, desk, () -> desk.perform(script), 0);
        }
        MooringDesk none = new MooringDesk();
        Refused.due("no script", none, () -> none.perform(0), 0);
        Check.tell(none, 1, "w0,1,0");
        Refused.due("no mooring", none, () -> none.perform(0), 0);
        Check.tell(desk, 1, "w0,1,0;c9");
        Refused.due("one can't be", desk, () -> desk.perform(2), 1001, 102, 0);
        Doc.due("none came", desk.rule(2), 17);
        Doc.due("no line", desk.count(3), 17);
    }

    private static void years() {
        Doc.says(36, "YEARS: ROPES that are TAUT (bits).");
        MooringDesk desk = Check.moored("sf1u90;ra-1p50;rp50;r");
        Doc.due("taut", desk.years(40, 9), desk.most(0));
        Doc.due("some is", desk.most(0) > 0, true);
        Doc.says(36, "NONE: no MOORING, out of bounds.");
        Doc.due("no mooring", new MooringDesk().years(1, 1), -1);
        for (int n : Wrong.of(1, 40)) {
            Doc.due("n " + n, desk.years(n, 1), -1);
        }
        Doc.due("1", desk.years(1, 1) > 0, true);
        Doc.due("40", desk.years(40, 1) > 0, true);
        Seen.allSameBehind("out of bounds", SettleSentences::busy, d -> d.years(41, 1));
    }

    private static void image() {
        Doc.says(38, "An IMAGE (instead of the one ahead): TAUT ones (bits).");
        MooringDesk desk = pair();
        Doc.due("both", desk.image(), 3);
        desk.wind(11, 0, 0);
        Doc.due("rope 1", desk.image(), 2);
        desk.wind(-11, 0, 0);
        Doc.due("both", desk.most(0), 3);
        Doc.due("the latter one", desk.back(), 2);
        Doc.due("wind", desk.rule(1), 11);
        Doc.says(38, "NONE: no MOORING.");
        MooringDesk none = new MooringDesk();
        Doc.due("no mooring", none.image(), -1);
        Doc.due("no image, then", none.back(), -1);
        Check.tell(none, 0, "sf1;r");
        Doc.due("nor of what is told behind it", none.back(), -1);
    }

    private static void back() {
        Doc.says(39, "BACK: TAUT ones (bits).");
        MooringDesk desk = pair();
        desk.image();
        desk.wind(11, 0, 0);
        Doc.due("both", desk.back(), 3);
        Doc.due("both", desk.most(0), 3);
        Doc.due("again", desk.back(), 3);
        Doc.says(39, "NONE: no IMAGE of this MOORING.");
        Doc.due("none", pair().back(), -1);
        Doc.due("no mooring", new MooringDesk().back(), -1);
        Seen.allSameBehind("none", ActPromises::pair, d -> d.back());
        Check.tell(desk, 0, "sf1;rp5;ra-1p5");
        Doc.due("of another mooring", desk.back(), -1);
        desk.image();
        Doc.due("a mooring that can't be leaves it", Check.tell(desk, 0, "sf7;r"), -2);
        Doc.due("there still", desk.back(), 3);
        Doc.due("a fault leaves it", Check.tell(desk, 0, "x"), -1);
        Doc.due("there still", desk.back(), 3);
    }
}
