/** ==== 1 of the terms: moorings and scripts told as texts, and what is a fault in them. */
final class TextSentences {
    /** Held on all three axes, each by itself, so that any set of free axes settles. */
    private static final String ALL_WAYS = ";ry1p9;ry-1p9;ra-1y1p9;ra-1y-1p9;rb1a0p9;ra0b-1p9";
    private static final String SIXTEEN = "c1;c1;c1;c1;c1;c1;c1;c1;c1;c1;c1;c1;c1;c1;c1;c1";

    private TextSentences() {
    }

    static void all() {
        clauses();
        items();
        rules();
        ropeItems();
        scripts();
        steps();
        blanks();
        tooEarly();
        nowhere();
        numbers();
        signs();
        whatCannotBe();
    }

    private static void fault(int sort, String text, int want) {
        Doc.due("fault " + sort + " of '" + text + "'", Check.fault(sort, text), want);
    }

    /** Both bounds can be told, one beyond each is wrong at its last digit. */
    private static void bounds(int sort, String ahead, int least, int most, String behind) {
        for (int n = least; n <= most; n++) {
            if (n < least + 3 || n > most - 3 || n > -3 && n < 3) {
                fault(sort, ahead + n + behind, -1);
            }
        }
        for (int n : new int[] {least - 1, most + 1}) {
            fault(sort, ahead + n + behind, (ahead + n).length() - 1);
        }
    }

    private static void clauses() {
        Doc.says(0, "A MOORING is a TEXT: CLAUSES with ; between:");
        fault(0, "r;r", -1);
        fault(0, "rr", 1);
        fault(0, ";r", 0);
        fault(0, "r;;r", 2);
        fault(0, "r;", 2);
        fault(0, "r,r", 1);
        fault(0, "", 0);
        Doc.says(0, "s (its RULES; one at most)");
        fault(0, "r", -1);
        fault(0, "s;r", -1);
        fault(0, "s;s;r", 2);
        fault(0, "sf1;r;sf1", 6);
        Doc.says(0, "r (a ROPE; 1 .. 8)");
        String ropes = "r";
        for (int n = 1; n <= 8; n++) {
            fault(0, ropes, -1);
            ropes += ";r";
        }
        fault(0, ropes, 16);
        fault(0, "s", 1);
        Doc.due("eight", Check.tell(new MooringDesk(), 0, "sf1;r;r;r;r;r;r;r;r"), 8);
        Doc.due("one", Check.tell(new MooringDesk(), 0, "sf1;r"), 1);
        Doc.says(0, "in any order, then ITEMS, none or more:");
        for (String text : new String[] {"s;r;r", "r;s;r", "r;r;s"}) {
            fault(0, text, -1);
        }
        fault(0, "skr", 1);
        fault(0, "f1s;r", 0);
        fault(0, "k1r", 0);
    }

    private static void items() {
        Doc.says(0, "a letter, each once at most in a CLAUSE,");
        for (String letter : new String[] {"k", "x", "y", "a", "b", "p", "t"}) {
            fault(0, "r" + letter + "1", -1);
            fault(0, "r" + letter + "1" + letter + "1", 3);
            fault(0, "r" + letter + "1;r" + letter + "1", -1);
            fault(0, "s" + letter + "1;r", 1);
        }
        for (String letter : new String[] {"f", "u", "v", "w"}) {
            fault(0, "s" + letter + "1;r", -1);
            fault(0, "s" + letter + "1" + letter + "1;r", 3);
            fault(0, "r" + letter + "1", 1);
        }
        fault(0, "rt1p1b1a1y1x1k1", -1);
        fault(0, "rt1p1b1a1y1x1k1t1", 15);
        Doc.says(0, "and a number (one to three digits; with a - ahead of it or without):");
        fault(0, "rp", 2);
        fault(0, "rp;r", 2);
        fault(0, "rp1", -1);
        fault(0, "rp01", -1);
        fault(0, "rp001", -1);
        fault(0, "rp0001", 5);
        fault(0, "rp-1", -1);
        fault(0, "rp-01", -1);
        fault(0, "rp-001", -1);
        fault(0, "rp-0001", 6);
        fault(0, "rp-", 3);
        fault(0, "rp--1", 3);
        fault(0, "rp+1", 2);
        fault(0, "rp1-", 3);
        // The signs on both sides of the digits are none.
        for (char sign : new char[] {'/', ':'}) {
            fault(0, "rp" + sign, 2);
            fault(0, "rp1" + sign, 3);
            fault(0, "rp-" + sign, 3);
            fault(0, "rp001" + sign, 5);
            fault(1, "w1" + sign + ",0,0", 2);
            fault(1, "c" + sign, 1);
            fault(1, "h1:" + sign, 3);
        }
        fault(0, "rp9", -1);
        fault(0, "rp0", -1);
        fault(0, "rt990", -1);
        MooringDesk desk = Check.moored("sf1;rp-001;ra-1p050t009");
        Doc.due("zeros ahead", desk.rope(0, 7), -1);
        Doc.due("zeros ahead", desk.rope(1, 7), 50);
        Doc.due("zeros ahead", desk.rope(1, 6), 9);
        Doc.due("-0", Check.moored("sf1u-0;rp-0;ra-1").rope(0, 7), 0);
    }

    private static void rules() {
        Doc.says(0, "of s: f FREE (bits: 1 along, 2 across, 4 round; 1 .. 7; 3 without)");
        bounds(0, "sf", 1, 7, ";r");
        Doc.due("without", Check.moored("s;rp1;ra-1p1;ra0b1p1").rule(0), 3);
        Doc.due("without s", Check.moored("rp1;ra-1p1;ra0b1p1").rule(0), 3);
        int[][] shifts = {{3, 2}, {3, 1}, {1, 1}};
        for (int free = 1; free <= 7; free++) {
            MooringDesk desk = Check.moored("sf" + free + "u6v6w4" + ALL_WAYS);
            Doc.due("as told", desk.rule(0), free);
            for (int axis = 0; axis <= 2; axis++) {
                boolean isFree = (free >> axis & 1) != 0;
                Doc.due(free + " on " + axis, desk.shift(axis, 0), isFree ? shifts[axis][0] : 0);
                Doc.due(free + " on " + axis, desk.shift(axis, 1), isFree ? shifts[axis][1] : 1);
            }
        }
        Doc.says(0, "u, v, w WIND along, across, round (-99 .. 99, -99 .. 99, -999 .. 999; 0)");
        bounds(0, "su", -99, 99, ";r");
        bounds(0, "sv", -99, 99, ";r");
        bounds(0, "sw", -999, 999, ";r");
        int[] most = {99, 99, 999};
        String[] letters = {"u", "v", "w"};
        for (int axis = 0; axis <= 2; axis++) {
            for (int wind : new int[] {-most[axis], 0, most[axis]}) {
                MooringDesk desk = Check.moored("sf1" + letters[axis] + wind + ";rp50;ra-1p50");
                for (int other = 0; other <= 2; other++) {
                    Doc.due(letters[axis] + wind, desk.rule(other + 1), other == axis ? wind : 0);
                }
            }
        }
    }

    private static void itemTold(String letter, int what, int least, int most, int untold) {
        bounds(0, "rb1" + letter, least, most, "");
        for (int n = least; n <= most; n += Math.max(1, (most - least) / 8)) {
            MooringDesk desk = Check.moored("sf1;rp5;ra-1p5;rb1" + letter + n);
            Doc.due(letter + n, desk.rope(2, what), n);
        }
        Doc.due(letter + most, Check.moored("sf1;rp5;ra-1p5;rb1" + letter + most).rope(2, what), most);
        Doc.due(letter + " untold", Check.moored("sf1;rp5;ra-1p5;r").rope(2, what), untold);
    }

    private static void ropeItems() {
        Doc.says(0, "of r: k STIFFNESS (1 .. 9; 1)");
        itemTold("k", 0, 1, 9, 1);
        Doc.says(0, "x, y where it is fast on the ship (-4 .. 4; 0)");
        itemTold("x", 1, -4, 4, 0);
        itemTold("y", 2, -4, 4, 0);
        Doc.says(0, "a, b which way it goes along, across (-4 .. 4; 1 and 0)");
        itemTold("a", 3, -4, 4, 1);
        bounds(0, "rb", -4, 4, "");
        for (int b = -4; b <= 4; b++) {
            Doc.due("b" + b, Check.moored("sf1;rp5;ra-1p5;rb" + b).rope(2, 4), b);
        }
        Doc.due("b untold", Check.moored("sf1;rp5;ra-1p5;r").rope(2, 4), 0);
        Doc.says(0, "p how taut it was laid (-50 .. 50; 0)");
        itemTold("p", 7, -50, 50, 0);
        Doc.says(0, "t STRENGTH (1 .. 999; 999)");
        itemTold("t", 6, 1, 999, 999);
    }

    private static void scripts() {
        Doc.says(0, "SCRIPTS (4 at most) are TEXTS:");
        MooringDesk desk = new MooringDesk();
        for (int i = 0; i <= 3; i++) {
            Doc.due("script " + i, Check.tell(desk, 1, "c" + i), i);
        }
        Doc.due("a fifth", Check.tell(desk, 1, "c4"), -1);
        Doc.due("four still", desk.count(1), 4);
        for (int i = 0; i <= 3; i++) {
            Doc.due("as told", desk.step(i, 0, 1), i);
        }
        Doc.due("no fifth", desk.step(4, 0, 0), MooringDesk.HIDDEN);
        Doc.says(0, "STEPS with ; between, 1 to 16:");
        fault(1, "", 0);
        fault(1, "c1", -1);
        fault(1, "c1c1", 2);
        fault(1, "c1;", 3);
        fault(1, "c1;;c1", 3);
        fault(1, ";c1", 0);
        fault(1, SIXTEEN, -1);
        fault(1, SIXTEEN + ";c1", 47);
        Check.tape(desk, SIXTEEN);
        MooringDesk other = new MooringDesk();
        Check.tell(other, 1, SIXTEEN.substring(0, 45) + "n7");
        Doc.due("the sixteenth", other.step(0, 15, 0), 3);
        Doc.due("the sixteenth", other.step(0, 15, 1), 7);
        Doc.due("no seventeenth", other.step(0, 16, 0), MooringDesk.HIDDEN);
    }

    private static void steps() {
        Doc.says(0, "w and three numbers with , between (-99 .. 99, -99 .. 99, -999 .. 999): WIND;");
        bounds(1, "w", -99, 99, ",0,0");
        bounds(1, "w0,", -99, 99, ",0");
        bounds(1, "w0,0,", -999, 999, "");
        fault(1, "w1,2", 4);
        fault(1, "w1,2;c1", 4);
        fault(1, "w1,2,3,4", 6);
        fault(1, "w1 2 3", 3);
        fault(1, "w,1,2", 1);
        stepTold("w-99,99,-999", 0, -99, 99, -999);
        stepTold("w99,-99,999", 0, 99, -99, 999);
        Doc.says(0, "h and a digit, :, a number (-9 .. 9): a WINCH;");
        bounds(1, "h0:", -9, 9, "");
        for (int digit = 0; digit <= 9; digit++) {
            stepTold("h" + digit + ":-9", 1, digit, -9, MooringDesk.HIDDEN);
        }
        fault(1, "h", 1);
        fault(1, "h:1", 1);
        fault(1, "h-1:1", 1);
        fault(1, "h10:1", 2);
        fault(1, "h1", 2);
        fault(1, "h1;c1", 2);
        fault(1, "h1:", 3);
        fault(1, "h1,1", 2);
        Doc.says(0, "c, n, each with a digit: CAST OFF, RENEW a ROPE.");
        for (int digit = 0; digit <= 9; digit++) {
            stepTold("c" + digit, 2, digit, MooringDesk.HIDDEN, MooringDesk.HIDDEN);
            stepTold("n" + digit, 3, digit, MooringDesk.HIDDEN, MooringDesk.HIDDEN);
        }
        fault(1, "c", 1);
        fault(1, "n;", 1);
        fault(1, "c-1", 1);
        fault(1, "c10", 2);
        fault(1, "n1:1", 2);
        fault(1, "x1", 0);
    }

    private static void stepTold(String step, int sort, int one, int two, int three) {
        MooringDesk desk = new MooringDesk();
        Doc.due(step + " is told", Check.tell(desk, 1, step), 0);
        int[] want = {sort, one, two, three};
        for (int what = 0; what <= 3; what++) {
            Doc.due(step + " " + what, desk.step(0, 0, what), want[what]);
        }
    }

    private static void blanks() {
        String mooring = "sf1u-20v30w-123;rk2x-1y3a-4b0p12t100;r";
        String script = "w-12,0,345;h7:-9;c1;n0";
        Doc.says(0, "Blanks (32) may stand between all signs of both,");
        blanked(0, mooring, false);
        blanked(1, script, false);
        for (char sign : new char[] {9, 10, 13, 31, 33, 160}) {
            fault(0, "r" + sign + "k1", 1);
            fault(0, sign + "r", 0);
            fault(0, "r" + sign, 1);
            fault(1, "c" + sign + "1", 1);
            fault(1, "c1" + sign, 2);
        }
        Doc.says(0, "not within a number nor behind its -.");
        blanked(0, mooring, true);
        blanked(1, script, true);
    }

    private static boolean isDigit(char sign) {
        return sign >= '0' && sign <= '9';
    }

    /** A blank, then two, at each place: between digits the next one is the fault, behind a - the blank itself. */
    private static void blanked(int sort, String text, boolean isWithin) {
        for (int at = 0; at <= text.length(); at++) {
            boolean behindDigit = at > 0 && isDigit(text.charAt(at - 1));
            boolean isInNumber = at < text.length() && behindDigit && isDigit(text.charAt(at));
            boolean isBehindMinus = at > 0 && text.charAt(at - 1) == '-';
            if (isWithin != (isInNumber || isBehindMinus)) {
                continue;
            }
            for (String blanks : new String[] {" ", "  "}) {
                int want = isInNumber ? at + blanks.length() : isBehindMinus ? at : -1;
                fault(sort, text.substring(0, at) + blanks + text.substring(at), want);
            }
        }
    }

    private static void tooEarly() {
        Doc.says(0, "FAULT: the first byte at which no such TEXT can go on");
        fault(0, "rk1zz", 3);
        fault(0, "x", 0);
        fault(0, "c1", 0);
        fault(1, "r", 0);
        fault(1, "c1;h2:3x;z", 7);
        fault(0, "" + (char) 233, 0);
        fault(1, "" + (char) 255, 0);
        fault(0, "r" + (char) 242, 1);
        Doc.says(0, "(the length, if it ends too early,");
        prefixes(0, "r;sf1u-20v30w-123;rk2x-1y3a-4b4p12t100;r");
        prefixes(1, "w-12,0,345;h7:-9;c1;n0");
        fault(0, "", 0);
        fault(1, "", 0);
        fault(0, "   ", 3);
        fault(1, "   ", 3);
        fault(1, "w1,2, ", 6);
        Doc.says(0, "without a ROPE,");
        fault(0, "s", 1);
        fault(0, "s ", 2);
        fault(0, "sf1u2v3w4", 9);
        fault(0, "s;", 2);
        fault(0, "s;r", -1);
    }

    /** What begins a text has no fault, or its length. */
    private static void prefixes(int sort, String text) {
        fault(sort, text, -1);
        for (int n = 0; n < text.length(); n++) {
            char last = n == 0 ? ';' : text.charAt(n - 1);
            boolean isWhole = sort == 0 ? isDigit(last) || last == 'r' || last == 's'
                : isDigit(last) && text.substring(0, n).matches("(.*;)?(w-?\\d+,-?\\d+,-?\\d+|h\\d:-?\\d|[cn]\\d)");
            fault(sort, text.substring(0, n), isWhole ? -1 : n);
        }
    }

    private static void nowhere() {
        Doc.says(0, "or with a ROPE whose a and b are both 0):");
        fault(0, "ra0", 3);
        fault(0, "ra0b0", 5);
        fault(0, "rb0a0", 5);
        fault(0, "ra-0b-0", 7);
        fault(0, "ra00b000", 8);
        fault(0, "ra0 ", 4);
        fault(0, "ra0;r", 5);
        fault(0, "r;ra0;r", 7);
        fault(0, "r;r;ra0", 7);
        fault(0, "ra0;sf1", 7);
        fault(0, "ra0b1", -1);
        fault(0, "ra0b-1", -1);
        fault(0, "rb0", -1);
        fault(0, "ra1b0", -1);
        // What is wrong ahead of the end comes first.
        fault(0, "ra0;z", 4);
        fault(0, "ra0b0z", 5);
        MooringDesk desk = new MooringDesk();
        Doc.due("not told", Check.tell(desk, 0, "sf1;r;ra0"), -1);
        Doc.due("the tape stays", desk.count(2), 9);
    }

    private static void numbers() {
        Doc.says(0, "a number out of bounds is wrong at its last digit,");
        fault(0, "rk0", 2);
        fault(0, "rk10", 3);
        fault(0, "rk99", 3);
        fault(0, "rk100", 4);
        fault(0, "rk-5", 3);
        fault(0, "rk00", 3);
        fault(0, "rk000", 4);
        fault(0, "rp123", 4);
        fault(0, "rp51x9", 3);
        fault(0, "rp51 ", 3);
        fault(1, "w100,0,0", 3);
        fault(1, "h1:10", 4);
        fault(1, "h1:999", 5);
        Doc.says(0, "a fourth digit itself, whatever stands ahead of it,");
        fault(0, "rk0001", 5);
        fault(0, "rk9999", 5);
        fault(0, "rk99999", 5);
        fault(0, "rx-0001", 6);
        fault(0, "rx-9999", 6);
        fault(0, "rt1000", 5);
        fault(0, "sf0001;r", 5);
        fault(0, "rk9990", 5);
        fault(0, "rk-9990", 6);
        fault(1, "w9990,0,0", 4);
        fault(1, "w0000,0,0", 4);
        fault(1, "w0,0,-1000", 9);
        fault(1, "h1:0001", 6);
    }

    private static void signs() {
        Doc.says(0, "a letter that was there,");
        fault(0, "rk1x1k1", 5);
        fault(0, "rk1k", 3);
        fault(0, "sf1 f", 4);
        fault(0, "r;rp1a2p1", 7);
        Doc.says(0, "a second s,");
        fault(0, "s;s", 2);
        fault(0, "sf1;r; s", 7);
        fault(0, "r;s;r;s;r", 6);
        Doc.says(0, "a ninth r,");
        fault(0, "r;r;r;r;r;r;r;r;r", 16);
        fault(0, "r;r;r;r;s;r;r;r;r;r", 18);
        fault(0, "r;r;r;r;r;r;r;r; r", 17);
        fault(0, "r;r;r;r;r;r;r;r;s", -1);
        Doc.says(0, "the ; ahead of a 17th STEP.");
        fault(1, SIXTEEN + ";", 47);
        fault(1, SIXTEEN + ";n1", 47);
        fault(1, SIXTEEN + " ;", 48);
        fault(1, SIXTEEN + ";;", 47);
        fault(1, SIXTEEN + "x", 47);
        fault(1, SIXTEEN.substring(3) + ";", 45);
    }

    private static void whatCannotBe() {
        Doc.says(0, "(What a STEP tells that can't be is no FAULT.)");
        MooringDesk desk = Check.moored("sf1;rp5;ra-1p5");
        String[] steps = {"c9", "n0", "w0,0,0", "h0:0"};
        for (int i = 0; i < steps.length; i++) {
            fault(1, steps[i], -1);
            Doc.due(steps[i] + " is told", Check.tell(desk, 1, steps[i]), i);
            Doc.due(steps[i] + " can't be", desk.run(i, 0), 0);
        }
    }
}
