/** Promises 1 to 5 and 21, sentence by sentence: a new object, the tape, texts, steps. */
final class TapePromises {
    private static final int HIDDEN = MooringDesk.HIDDEN;

    private TapePromises() {
    }

    static void all() {
        newObject();
        feed();
        end();
        fault();
        text();
        step();
    }

    private static void newObject() {
        Doc.says(1, "No MOORING.");
        MooringDesk desk = new MooringDesk();
        for (int what = 0; what <= 4; what++) {
            Doc.due("count " + what, desk.count(what), 0);
            Doc.due("rule " + what, desk.rule(what), HIDDEN);
            Doc.due("status " + what, desk.status(what), 0);
        }
        Doc.due("nothing was refused", desk.cause(0), -1);
        Check.noSuch("no rope", desk, 0, 0);
    }

    private static void feed() {
        Doc.says(2, "Twenty bytes more come to the TAPE (of each number the highest first; bytes of 0 are left out): how many it has.");
        MooringDesk desk = new MooringDesk();
        Doc.due("none", desk.feed(0, 0, 0, 0, 0), 0);
        // "rk9x" "4y-4" "a4b4" "p50t" "999;", then "r", told by its last byte.
        Doc.due("twenty", desk.feed(0x726b3978, 0x34792d34, 0x61346234, 0x70353074, 0x3939393b), 20);
        Doc.due("one", desk.feed(0, 0, 0, 0, 0x00000072), 21);
        Doc.due("in this order", desk.fault(0), -1);
        int[] told = {9, 4, -4, 4, 4, 32, 999, 50};
        Check.feed(desk, ";sf1");
        Doc.due("in this order", desk.text(0), 2);
        for (int what = 0; what < told.length; what++) {
            Doc.due("item " + what, desk.rope(0, what), told[what]);
        }
        Doc.due("0 in between", desk.feed(0x63003100, 0x003b0000, 0, 0x0000006e, 0x35000000), 5);
        Doc.due("c1;n5", desk.text(1), 0);
        Doc.due("c1;n5", desk.step(0, 1, 1), 5);
        Doc.due("bytes of 255", desk.feed(-1, -1, -1, -1, -1), 20);
        Doc.due("one of 128", desk.feed(0x00008000, 0, 0, 0, 0), 21);
        Doc.says(2, "NONE: more than 240.");
        desk = new MooringDesk();
        for (int i = 1; i <= 12; i++) {
            Doc.due("feed " + i, desk.feed(0x20202020, 0x20202020, 0x20202020, 0x20202020, 0x20202020), 20 * i);
        }
        Doc.due("one more", desk.feed(0, 0, 0, 0, 1), -1);
        Doc.due("twenty more", desk.feed(-1, -1, -1, -1, -1), -1);
        Doc.due("240 still", desk.count(2), 240);
        Doc.due("none more", desk.feed(0, 0, 0, 0, 0), 240);
        Doc.due("239", desk.end(239), true);
        Doc.due("two more", desk.feed(0x00720000, 0, 0, 0, 0x00000072), -1);
        Doc.due("not one of both came", desk.count(2), 239);
        Doc.due("one more", desk.feed(0, 0x00720000, 0, 0, 0), 240);
        Doc.due("the last one is read", desk.fault(0), -1);
        desk.end(221);
        Doc.due("twenty to 241", desk.feed(-1, -1, -1, -1, -1), -1);
        Doc.due("nineteen to 240", desk.feed(-1, -1, -1, -1, 0x01010100), 240);
    }

    private static void end() {
        Doc.says(3, "The TAPE has its first n bytes alone.");
        MooringDesk desk = new MooringDesk();
        Check.feed(desk, "rk1zz");
        Doc.due("all five", desk.end(5), true);
        Doc.due("five", desk.count(2), 5);
        Doc.due("z", desk.fault(0), 3);
        Doc.due("three", desk.end(3), true);
        Doc.due("rk1", desk.fault(0), -1);
        Doc.due("what follows stands behind these", desk.feed(0, 0, 0, 0, 0x3b72), 5);
        Doc.due("rk1;r", desk.fault(0), -1);
        Doc.due("none", desk.end(0), true);
        Doc.due("none", desk.count(2), 0);
        Doc.due("none of none", desk.end(0), true);
        Doc.says(3, "False: n.");
        Doc.due("one of none", desk.end(1), false);
        Check.feed(desk, "rk1zz");
        for (int n : Wrong.of(0, 5)) {
            Doc.due("n " + n, desk.end(n), false);
        }
        Doc.due("it stays", desk.count(2), 5);
        Doc.due("it stays", desk.fault(0), 3);
    }

    private static void fault() {
        Doc.says(4, "The FAULT of the TAPE as a MOORING (0), a SCRIPT (1).");
        MooringDesk desk = new MooringDesk();
        Doc.due("an empty tape", desk.fault(0), 0);
        Doc.due("an empty tape", desk.fault(1), 0);
        Check.feed(desk, "r;x");
        Doc.due("a mooring", desk.fault(0), 2);
        Doc.due("a script", desk.fault(1), 0);
        Check.tape(desk, "c1;x");
        Doc.due("a mooring", desk.fault(0), 0);
        Doc.due("a script", desk.fault(1), 3);
        Doc.due("the tape stays", desk.count(2), 4);
        Doc.says(4, "NONE: none.");
        Check.tape(desk, "r");
        Doc.due("a mooring", desk.fault(0), -1);
        Check.tape(desk, "c1");
        Doc.due("a script", desk.fault(1), -1);
        // A fault is what the text has; whether it could settle, or whether there is room for it, is none.
        Check.tape(desk, "sf7;r");
        Doc.due("what can't settle", desk.fault(0), -1);
        for (int i = 0; i < 4; i++) {
            Check.tell(desk, 1, "c1");
        }
        Check.tape(desk, "c1");
        Doc.due("a fifth script", desk.fault(1), -1);
        Check.tape(desk, "c1;");
        Doc.due("a fifth script", desk.fault(1), 3);
        Doc.due("the fourth stays", desk.step(3, 0, 1), 1);
        Doc.says(4, "-2: no such sort.");
        for (int sort : Wrong.of(0, 1)) {
            Doc.due("sort " + sort, desk.fault(sort), -2);
        }
        // What was read and had a fault leaves nothing in what is told next.
        MooringDesk next = new MooringDesk();
        Check.tape(next, "sf7u9v9w9;rk9x4y4a4b4p50t9;rk8x3y3a3b3p40t8;z");
        Doc.due("a fault", next.fault(0), 44);
        Check.tell(next, 0, "rp1;ra-1;ra0b1");
        int[] untold = {1, 0, 0, 1, 0, 0, 999, 1};
        for (int what = 0; what <= 7; what++) {
            Doc.due("rope 0, " + what, next.rope(0, what), untold[what]);
        }
        Doc.due("free", next.rule(0), 3);
        Doc.due("no wind", next.rule(1) + next.rule(2) + next.rule(3), 0);
        Check.tape(next, "h7:9;n8;h6:5;z");
        Doc.due("a fault", next.fault(1), 13);
        Check.tell(next, 1, "w1,2,3;w4,5,6");
        Doc.due("a wind", next.step(0, 0, 0), 0);
        Doc.due("a wind", next.step(0, 1, 0), 0);
        Doc.due("its third", next.step(0, 1, 3), 6);
        Doc.due("no third step", next.step(0, 2, 0), HIDDEN);
        // Reading a fault leaves what was told as it is.
        MooringDesk told = Check.moored("sf1u5;rp5;ra-1p5");
        Check.feed(told, "sf7;rk9t1");
        told.fault(0);
        Doc.due("free", told.rule(0), 1);
        Doc.due("stiffness", told.rope(0, 0), 1);
        Doc.due("ropes", told.count(0), 2);
    }

    private static void text() {
        Doc.says(5, "The TAPE (empty then) is the MOORING");
        MooringDesk desk = new MooringDesk();
        Doc.due("three ropes", Check.tell(desk, 0, "sf1u7;rp5;ra-1p9;rk3"), 3);
        Doc.due("empty", desk.count(2), 0);
        Doc.due("wind", desk.rule(1), 7);
        Doc.due("p", desk.rope(1, 7), 9);
        Doc.says(5, "(all that was of another one is gone but SCRIPTS, STATUS, CAUSES):");
        MooringDesk busy = SettleSentences.busy();
        Check.tell(busy, 0, "sf1u7;rp5;ra-1p9;rk3");
        Doc.due("no acts", busy.count(4), 0);
        Doc.due("no undo", busy.undo(), -1);
        Doc.due("no log", busy.count(3), 0);
        Doc.due("no log", busy.log(0, 0), HIDDEN);
        Doc.due("no image", busy.back(), -1);
        Doc.due("wind", busy.rule(1), 7);
        Doc.due("wind", busy.rule(2), 0);
        Doc.due("none is cast off", busy.most(3), 0);
        Doc.due("none is broken", busy.most(2), 0);
        Doc.due("none ever broke", busy.most(7), 0);
        Check.noSuch("a fourth rope", busy, 3, 0);
        Doc.due("scripts stay", busy.count(1), 1);
        Doc.due("scripts stay", busy.step(0, 1, 2), 2);
        Doc.due("status stays", busy.status(0), 1);
        Doc.due("status stays", busy.status(2), 1);
        Refused.causes("causes stay", busy, 102, 2);
        for (int what = 0; what <= 8; what++) {
            Doc.due("most " + what, busy.most(what), desk.most(what));
        }
        Doc.says(5, "how many ROPES; a SCRIPT: its number.");
        Doc.due("one", Check.tell(desk, 0, "sf1;r"), 1);
        Doc.due("eight", Check.tell(desk, 0, "sf1;r;r;r;r;r;r;r;r"), 8);
        for (int i = 0; i < 4; i++) {
            Doc.due("script " + i, Check.tell(desk, 1, "n" + i), i);
            Doc.due("empty", desk.count(2), 0);
        }
        Doc.says(5, "NONE: a FAULT (the TAPE stays), no such sort, there are four SCRIPTS.");
        refused();
        Doc.says(5, "-2: it can't SETTLE (the TAPE is empty, all else stays).");
        for (String text : new String[] {"sf3;r", "sf1u1;r", Rounds.TEXTS[0], Rounds.TEXTS[1]}) {
            MooringDesk none = new MooringDesk();
            Doc.due(text, Check.tell(none, 0, text), -2);
            Doc.due("empty", none.count(2), 0);
            Doc.due("no mooring still", none.count(0), 0);
            Seen.allSameBehind(text, SettleSentences::busy, d -> Doc.due(text, Check.tell(d, 0, text), -2));
        }
    }

    private static void refused() {
        MooringDesk desk = new MooringDesk();
        Check.tape(desk, "rz");
        Doc.due("a fault", desk.text(0), -1);
        Doc.due("the tape stays", desk.count(2), 2);
        Doc.due("a fault", desk.text(1), -1);
        Doc.due("the tape stays", desk.count(2), 2);
        Doc.due("no mooring", desk.count(0), 0);
        Doc.due("no script", desk.count(1), 0);
        Check.tape(desk, "");
        Doc.due("an empty tape", desk.text(0), -1);
        Doc.due("an empty tape", desk.text(1), -1);
        Check.tape(desk, "r");
        for (int sort : Wrong.of(0, 1)) {
            Doc.due("sort " + sort, desk.text(sort), -1);
        }
        Doc.due("the tape stays", desk.count(2), 1);
        for (int i = 0; i < 4; i++) {
            Check.tell(desk, 1, "n" + i);
        }
        Check.tape(desk, "c7");
        Doc.due("a fifth", desk.text(1), -1);
        Doc.due("the tape stays", desk.count(2), 2);
        Doc.due("four", desk.count(1), 4);
        for (int i = 0; i < 4; i++) {
            Doc.due("as told", desk.step(i, 0, 1), i);
        }
        Doc.due("no status by any of these", desk.status(0) + desk.status(1) + desk.status(2), 0);
        Doc.due("no causes", desk.cause(0), -1);
    }

    private static void step() {
        Doc.says(21, "A STEP of a SCRIPT: 0 what (0 WIND, 1 WINCH, 2 CAST OFF, 3 RENEW), 1 to 3 its numbers");
        MooringDesk desk = new MooringDesk();
        Check.tell(desk, 1, "w-1,22,-333;h7:-9;c0;n9");
        Check.tell(desk, 1, "h0:0");
        int[][] want = {{0, -1, 22, -333}, {1, 7, -9}, {2, 0}, {3, 9}};
        for (int i = 0; i < want.length; i++) {
            for (int what = 0; what < want[i].length; what++) {
                Doc.due("step " + i + ", " + what, desk.step(0, i, what), want[i][what]);
            }
        }
        Doc.due("of another", desk.step(1, 0, 1), 0);
        Doc.says(21, "(HIDDEN: there are fewer).");
        for (int i = 0; i < want.length; i++) {
            for (int what = want[i].length; what <= 3; what++) {
                Doc.due("step " + i + ", " + what, desk.step(0, i, what), HIDDEN);
            }
        }
        Doc.due("no third of a winch", desk.step(1, 0, 3), HIDDEN);
        Doc.says(21, "HIDDEN: no such ones.");
        for (int script : Wrong.of(0, 1)) {
            Doc.due("script " + script, desk.step(script, 0, 0), HIDDEN);
        }
        for (int i : Wrong.of(0, 3)) {
            Doc.due("step " + i, desk.step(0, i, 0), HIDDEN);
        }
        for (int what : Wrong.of(0, 3)) {
            Doc.due("what " + what, desk.step(0, 0, what), HIDDEN);
        }
        Doc.due("no second step", desk.step(1, 1, 0), HIDDEN);
        Doc.due("no script at all", new MooringDesk().step(0, 0, 0), HIDDEN);
    }
}
