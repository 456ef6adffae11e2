/** Promises 13 to 20 and 23: acts, what was refused and why, the log, undo, scripts done. */
public final class ActTest {
    private static final int HIDDEN = MooringDesk.HIDDEN;

    private ActTest() {
    }

    public static void main(String[] args) {
        winds();
        windBounds();
        winches();
        castAndRenew();
        adrift();
        roundForEver();
        notRoundBehindABreak();
        laidBounds();
        firstReason();
        undo();
        undoForty();
        logSixty();
        perform();
        performRefused();
        Check.finish("ActTest");
    }

    private static void causes(MooringDesk desk, int... want) {
        for (int i = 0; i < want.length; i++) {
            Check.due("cause " + i, desk.cause(i), want[i]);
        }
        Check.due("no more causes", desk.cause(want.length), -1);
        Check.due("no such cause", desk.cause(-1), -1);
    }

    private static void statuses(MooringDesk desk, int... want) {
        for (int i = 0; i < want.length; i++) {
            Check.due("status " + i, desk.status(i), want[i]);
        }
        Check.due("no such status", desk.status(5), -1);
        Check.due("no such status", desk.status(-1), -1);
    }

    private static void line(MooringDesk desk, int i, int sort, int rope, int broke) {
        Check.due("log " + i + " sort", desk.log(i, 0), sort);
        Check.due("log " + i + " rope", desk.log(i, 1), rope);
        Check.due("log " + i + " broke", desk.log(i, 2), broke);
    }

    private static void winds() {
        MooringDesk desk = Check.moored("sf1;rp5t9;ra-1p5t9;ra-1p0t2");
        Check.due("none breaks", desk.wind(1, -2, 3), 0);
        Check.due("along", desk.rule(1), 1);
        Check.due("across", desk.rule(2), -2);
        Check.due("round", desk.rule(3), 3);
        Check.due("added", desk.wind(1, -2, 3), 0);
        Check.due("across", desk.rule(2), -4);
        // 5 + 5 - s - 5 - s - s = 0: s is 5 by 3; then 6: s is 2; then 7: above 2.
        Check.due("5", desk.wind(3, 0, 0), 0);
        Check.due("rope 2", desk.pull(2, 0), 5);
        Check.due("6: as strong as pulled", desk.wind(1, 0, 0), 0);
        Check.due("7: rope 2 breaks, 5 + 5 - s", desk.wind(1, 0, 0), 4);
        Check.due("rope 1", desk.pull(1, 0), 17);
        Check.due("rope 1", desk.pull(1, 1), 2);
        line(desk, 0, 0, -1, 4);
        line(desk, 1, 0, -1, 0);
        Check.due("no such line", desk.log(5, 0), HIDDEN);
        Check.due("no such line", desk.log(-1, 0), HIDDEN);
        Check.due("no such item", desk.log(0, 3), HIDDEN);
        Check.due("no such item", desk.log(0, -1), HIDDEN);
        statuses(desk, 0, 0, 0, 0, 0);
        Check.due("nothing was refused", desk.cause(0), -1);
    }

    private static void windBounds() {
        MooringDesk desk = Check.moored("sf1;rp5;ra-1p5");
        int[][] beyond = {{100, 0, 0}, {-100, 0, 0}, {0, 100, 0}, {0, -100, 0}, {0, 0, 1000}, {0, 0, -1000},
            {Integer.MAX_VALUE, 0, 0}, {0, Integer.MIN_VALUE, 0}, {0, 0, Integer.MIN_VALUE}};
        for (int[] parts : beyond) {
            Check.due("out of bounds", desk.wind(parts[0], parts[1], parts[2]), -1);
            causes(desk, 100, 1);
        }
        statuses(desk, 0, 9, 0, 0, 0);
        for (int i = 0; i < 10; i++) {
            Check.due("far", desk.wind(99, -99, 999), 0);
        }
        Check.due("along would be 1,000", desk.wind(10, 0, 0), -1);
        Check.due("across would be -1,000", desk.wind(0, -10, 0), -1);
        Check.due("round would be 10,000", desk.wind(0, 0, 10), -1);
        statuses(desk, 0, 12, 0, 0, 0);
        Check.due("as far as it goes", desk.wind(9, -9, 9), 0);
        Check.due("along", desk.rule(1), 999);
        Check.due("across", desk.rule(2), -999);
        Check.due("round", desk.rule(3), 9999);
        Check.due("nothing changes", desk.wind(0, 0, 0), -1);
        causes(desk, 100, 2);
        statuses(desk, 0, 12, 1, 0, 0);
        Check.due("eleven acts", desk.count(4), 11);
    }

    private static void winches() {
        MooringDesk desk = Check.moored("sf1;rk9p50;ra-1p0");
        Check.due("taken in", desk.winch(0, 9), 0);
        Check.due("p is stiffness times n more", desk.rope(0, 7), 131);
        Check.due("let out", desk.winch(0, -9), 0);
        Check.due("p", desk.rope(0, 7), 50);
        line(desk, 0, 1, 0, 0);
        Check.due("n", desk.winch(0, 10), -1);
        Check.due("n", desk.winch(0, -10), -1);
        Check.due("n", desk.winch(1, Integer.MIN_VALUE), -1);
        causes(desk, 101, 1);
        Check.due("n is 0", desk.winch(0, 0), -1);
        causes(desk, 101, 2);
        Check.due("no such rope", desk.winch(2, 0), -1);
        causes(desk, 101, 0);
        Check.due("no such rope", desk.winch(-1, 99), -1);
        statuses(desk, 2, 3, 1, 0, 0);
        for (int i = 0; i < 11; i++) {
            desk.winch(0, 9);
        }
        Check.due("p", desk.rope(0, 7), 941);
        Check.due("995", desk.winch(0, 6), 0);
        Check.due("1,004", desk.winch(0, 1), -1);
        causes(desk, 101, 1);
        Check.due("p stays", desk.rope(0, 7), 995);
        Check.due("a winch can break ropes", Check.moored("sf1;rp5t6;ra-1p5t6;r").winch(1, 3), 2);
    }

    private static void castAndRenew() {
        MooringDesk desk = Check.moored("sf1;rp5;ra-1p5;ra-1p5");
        desk.winch(2, 3);
        Check.due("cast off", desk.cast(2), 0);
        line(desk, 0, 2, 2, 0);
        Check.due("is", desk.rope(2, 8), 3);
        Check.due("p stays", desk.rope(2, 7), 8);
        Check.due("again", desk.cast(2), -1);
        causes(desk, 102, 2);
        Check.due("its winch", desk.winch(2, 1), -1);
        causes(desk, 101, 2);
        Check.due("renewed", desk.renew(2), 0);
        line(desk, 0, 3, 2, 0);
        Check.due("is", desk.rope(2, 8), 0);
        Check.due("p is as told", desk.rope(2, 7), 5);
        Check.due("again", desk.renew(2), -1);
        causes(desk, 103, 2);
        Check.due("no such rope", desk.cast(3), -1);
        causes(desk, 102, 0);
        Check.due("no such rope", desk.renew(-1), -1);
        causes(desk, 103, 0);
        statuses(desk, 2, 0, 3, 0, 0);
        MooringDesk other = Check.moored("sf1;rp5;ra-1p5;ra-1t1");
        Check.due("rope 2 breaks", other.wind(6, 0, 0), 4);
        Check.due("broken ropes are not cast off", other.cast(2), -1);
        causes(other, 102, 2);
        Check.due("renewed, it breaks by it", other.renew(2), 4);
        other.wind(-6, 0, 0);
        Check.due("renewed, it holds", other.renew(2), 0);
        Check.due("is", other.rope(2, 8), 0);
        // A slack rope can be cast off, too.
        MooringDesk slack = Check.moored("sf1u3;ra-1;r");
        Check.due("slack", slack.rope(1, 8), 1);
        Check.due("cast off", slack.cast(1), 0);
        // Renewed it is taut at first, and dropped again.
        Check.due("renewed", slack.renew(1), 0);
        Check.due("slack", slack.rope(1, 8), 1);
        Check.due("two shifts", slack.rule(4), 2);
    }

    private static void adrift() {
        MooringDesk desk = Check.moored("sf1;rp5t9;ra-1p5t9;ra-1p0t2");
        Check.due("all break", desk.wind(50, 0, 0), -1);
        causes(desk, 100, 202, 3);
        statuses(desk, 0, 0, 0, 1, 0);
        Check.due("as it was", desk.most(0), 7);
        Check.due("as it was", desk.rule(1), 0);
        Check.due("tries as it was", desk.rule(4), 1);
        Check.due("no act", desk.count(4), 0);
        Check.due("no log", desk.count(3), 0);
        Check.due("none broke", desk.most(7), 0);
        MooringDesk last = Check.moored("sf1u1;ra-1;r");
        Check.due("what holds it", last.cast(0), -1);
        causes(last, 102, 200, 3);
        Check.due("is", last.rope(0, 8), 0);
        // Two free axes, and nothing across: many shifts.
        Check.due("many shifts", Check.tell(last, 0, "sf3;r;ra-1"), -2);
        Check.due("round is not held", Check.tell(last, 0, "sf7;rp1;ra-1p1;ra0b1p1;ra0b-1p1"), -2);
        Check.due("round is held", Check.tell(last, 0, "sf7;rp1y1;ra-1p1;ra0b1p1;ra0b-1p1"), 4);
    }

    private static void roundForEver() {
        MooringDesk desk = Check.moored("sf7;rk4x2y-2a-3b1p20;rk6x-1y4a-4b4p-22;rk9y4a4b-4p18;rk6x-3y-1p-17;"
            + "rk9x-3y-4a-2b-2p13;rk4x-2y-1a-1b-1p-9");
        int taut = desk.most(0);
        Check.due("round for ever", desk.winch(0, 9), -1);
        causes(desk, 101, 200, 4);
        statuses(desk, 0, 0, 0, 0, 1);
        Check.due("p as it was", desk.rope(0, 7), 20);
        Check.due("taut as it was", desk.most(0), taut);
        Check.tell(desk, 1, "c9;h0:9");
        Check.tell(desk, 1, "h0:9");
        Check.due("by a script", desk.perform(1), -1);
        causes(desk, 1000, 101, 200, 4);
        statuses(desk, 0, 0, 0, 0, 2);
        Check.due("by the step's reason", desk.perform(0), -1);
        causes(desk, 1000, 102, 0);
        statuses(desk, 1, 0, 0, 0, 2);
    }

    private static void notRoundBehindABreak() {
        // Behind a break it may go by a set again that it went by ahead of it.
        MooringDesk desk = new MooringDesk();
        Check.due("as it is told", Check.tell(desk, 0, "sf1;rk9p25t34;rk3a-1p-36t7;rk4a-1p-1t29;ra2p36t25;rk9p21;rk2p31"), 6);
        desk = Check.moored("sf1;rk7a-1p-27t9;rk6p34t22;rk7a-1p-8;rk3a4p14;rk7a4p-10t55");
        Check.due("by wind", desk.wind(37, 0, 0), 1);
        statuses(desk, 0, 0, 0, 0, 0);
    }

    private static void laidBounds() {
        MooringDesk desk = Check.moored("sf1;rp50;ra-1;rp-50");
        for (int i = 0; i < 105; i++) {
            desk.winch(0, 9);
            desk.winch(2, -9);
        }
        Check.due("999", desk.winch(0, 4), 0);
        Check.due("-999", desk.winch(2, -4), 0);
        Check.due("p", desk.rope(0, 7), 999);
        Check.due("p", desk.rope(2, 7), -999);
        Check.due("1,000", desk.winch(0, 1), -1);
        Check.due("-1,000", desk.winch(2, -1), -1);
        statuses(desk, 0, 2, 0, 0, 0);
    }

    private static void firstReason() {
        MooringDesk desk = Check.moored("sf1;rk9p50;ra-1p0;ra-1k9p50");
        for (int i = 0; i < 11; i++) {
            desk.winch(2, 9);
        }
        desk.cast(2);
        Check.due("n out of bounds, cast off", desk.winch(2, 10), -1);
        causes(desk, 101, 1);
        Check.due("p out of bounds, cast off", desk.winch(2, 9), -1);
        causes(desk, 101, 1);
        Check.due("cast off", desk.winch(2, 1), -1);
        causes(desk, 101, 2);
        statuses(desk, 0, 2, 1, 0, 0);
    }

    private static void undo() {
        MooringDesk desk = Check.moored("sf1;rp5;ra-1p5;ra-1t1");
        Check.due("none", desk.undo(), -1);
        desk.wind(6, 1, 1);
        desk.winch(0, 2);
        desk.cast(0);
        desk.cast(0);
        Check.due("three acts, one refused", desk.count(4), 3);
        Check.due("cast", desk.undo(), 2);
        Check.due("is", desk.rope(0, 8), 0);
        Check.due("the log, too", desk.count(3), 2);
        line(desk, 0, 1, 0, 0);
        causes(desk, 102, 2);
        statuses(desk, 0, 0, 1, 0, 0);
        Check.due("winch", desk.undo(), 1);
        Check.due("p", desk.rope(0, 7), 5);
        Check.due("wind", desk.undo(), 0);
        Check.due("wind", desk.rule(1), 0);
        Check.due("wind", desk.rule(3), 0);
        Check.due("rope 2 is whole again", desk.rope(2, 8), 0);
        Check.due("tries", desk.rule(4), 1);
        Check.due("none", desk.undo(), -1);
        Check.due("the log, too", desk.count(3), 0);
    }

    private static void undoForty() {
        MooringDesk desk = Check.moored("sf1;rp5;ra-1p5");
        for (int i = 0; i < 45; i++) {
            desk.wind(0, 1, 0);
        }
        Check.due("the latest 40", desk.count(4), 40);
        for (int i = 39; i >= 0; i--) {
            Check.due("undo", desk.undo(), i);
        }
        Check.due("no more", desk.undo(), -1);
        Check.due("five stand", desk.rule(2), 5);
        Check.due("five lines", desk.count(3), 5);
        desk.wind(0, 1, 0);
        Check.due("one again", desk.count(4), 1);
    }

    private static void logSixty() {
        MooringDesk desk = Check.moored("sf1;rp5;ra-1p5;ra-1p5;ra-1p5");
        desk.cast(3);
        StringBuilder text = new StringBuilder("h2:1");
        for (int i = 1; i < 16; i++) {
            text.append(i % 2 == 0 ? ";w0,1,0" : ";w0,-1,0");
        }
        Check.tell(desk, 1, text.toString());
        for (int i = 0; i < 42; i++) {
            Check.due("sixteen steps", desk.perform(0), 16);
            Check.due("lines", desk.count(3), Math.min(60, 16 * i + 17));
        }
        Check.due("no 61st", desk.log(60, 0), HIDDEN);
        for (int i = 41; i >= 2; i--) {
            Check.due("undo", desk.undo(), i - 2);
            Check.due("lines that come to light again", desk.count(3), Math.min(60, 16 * i + 1));
            line(desk, 0, 0, -1, 0);
            line(desk, 15, 1, 2, 0);
        }
        Check.due("the first line", desk.log(32, 0), 2);
        Check.due("the first line", desk.log(32, 1), 3);
        Check.due("none ahead of it", desk.log(33, 0), HIDDEN);
    }

    private static void perform() {
        MooringDesk desk = Check.moored("sf1;rp5;ra-1p5;ra-1t1");
        Check.tell(desk, 1, "w6,0,0;h0:2;c2;c0;n0");
        Check.tell(desk, 1, "w6,0,0;h0:2;n2;c1;n1");
        Check.due("step 2: rope 2 is broken", desk.perform(0), -1);
        causes(desk, 1002, 102, 2);
        Check.due("none is done", desk.rule(1), 0);
        Check.due("none is done", desk.rope(0, 7), 5);
        Check.due("none is done", desk.count(3), 0);
        Check.due("none is done", desk.count(4), 0);
        Check.due("cast of what holds it", desk.perform(1), -1);
        causes(desk, 1003, 102, 200, 3);
        statuses(desk, 0, 0, 1, 1, 0);
        Check.tell(desk, 1, "w6,0,0;h0:2;n2;c0;n0");
        Check.due("five steps", desk.perform(2), 5);
        Check.due("one act", desk.count(4), 1);
        Check.due("a line of each", desk.count(3), 5);
        line(desk, 4, 0, -1, 4);
        line(desk, 3, 1, 0, 0);
        line(desk, 2, 3, 2, 4);
        line(desk, 1, 2, 0, 0);
        line(desk, 0, 3, 0, 0);
        Check.due("broke", desk.most(7), 2);
        Check.due("undone at once", desk.undo(), 0);
        Check.due("as it was", desk.rule(1), 0);
        Check.due("as it was", desk.most(0), 7);
        Check.due("as it was", desk.most(7), 0);
        Check.due("as it was", desk.count(3), 0);
    }

    private static void performRefused() {
        MooringDesk desk = new MooringDesk();
        Check.tell(desk, 1, "w1,0,0");
        Check.due("no mooring", desk.perform(0), -1);
        causes(desk, 0);
        Check.tell(desk, 0, "sf1;rp5;ra-1p5");
        Check.due("no such script", desk.perform(1), -1);
        Check.due("no such script", desk.perform(-1), -1);
        causes(desk, 0);
        statuses(desk, 3, 0, 0, 0, 0);
        Check.tell(desk, 1, "w1,0,0;w0,0,0");
        Check.due("nothing changes by a step", desk.perform(1), -1);
        causes(desk, 1001, 100, 2);
        Check.tell(desk, 1, "h0:1;h9:1");
        Check.due("no such rope", desk.perform(2), -1);
        causes(desk, 1001, 101, 0);
        for (int i = 0; i < 10; i++) {
            desk.wind(0, 99, 0);
        }
        Check.tell(desk, 1, "w0,9,0;w0,1,0");
        Check.due("out of bounds by the second", desk.perform(3), -1);
        causes(desk, 1001, 100, 1);
        statuses(desk, 4, 1, 1, 0, 0);
    }
}
