/** Promises 6 to 12, 28, 29, 35, 37 and 40: how it stands. */
public final class HoldTest {
    private static final int HIDDEN = MooringDesk.HIDDEN;

    private HoldTest() {
    }

    public static void main(String[] args) {
        rulesAndRopes();
        pullsAlong();
        pullsBothWays();
        pullsRound();
        allThreeAxes();
        ties();
        brokenAsTold();
        worstBreaksFirst();
        slackAndTakenAgain();
        shares();
        most();
        largeNumbers();
        Check.finish("HoldTest");
    }

    private static void fraction(String what, long up, long low, long wantUp, long wantLow) {
        Check.due(what + " above", up, wantUp);
        Check.due(what + " below", low, wantLow);
    }

    private static void pull(MooringDesk desk, int rope, long up, long low) {
        fraction("pull " + rope, desk.pull(rope, 0), desk.pull(rope, 1), up, low);
    }

    private static void shift(MooringDesk desk, int axis, long up, long low) {
        fraction("shift " + axis, desk.shift(axis, 0), desk.shift(axis, 1), up, low);
    }

    private static void held(MooringDesk desk, int axis, long up, long low) {
        fraction("held " + axis, desk.held(axis, 0), desk.held(axis, 1), up, low);
    }

    private static void rulesAndRopes() {
        MooringDesk desk = Check.moored("su1v-2w3;rx-1y2a3b-4k5p6t7;r;ra-1;rb1a0;ra0b-1");
        int[] rules = {3, 1, -2, 3};
        for (int what = 0; what < 4; what++) {
            Check.due("rule " + what, desk.rule(what), rules[what]);
        }
        Check.due("no such rule", desk.rule(5), HIDDEN);
        Check.due("no such rule", desk.rule(-1), HIDDEN);
        // The arm: x times b less y times a, that is 4 less 6.
        int[] told = {5, -1, 2, 3, -4, -2, 7, 6};
        int[] untold = {1, 0, 0, 1, 0, 0, 999, 0};
        for (int what = 0; what < 8; what++) {
            Check.due("rope 0, " + what, desk.rope(0, what), told[what]);
            Check.due("rope 1, " + what, desk.rope(1, what), untold[what]);
        }
        Check.noSuch("no such rope", desk, 5, 0);
        Check.noSuch("no such rope", desk, -1, 0);
        Check.noSuch("no such item", desk, 0, 9);
        Check.noSuch("no such item", desk, 0, -1);
        Check.due("ropes", desk.count(0), 5);
        Check.due("no such count", desk.count(5), HIDDEN);
        Check.due("no such count", desk.count(-1), HIDDEN);
    }

    private static void pullsAlong() {
        // 1 + (1 - s) - (1 + 2s) = 0: s is a third.
        MooringDesk desk = Check.moored("sf1u1v7w-8;rp1t10;ra-1k2p1t4");
        shift(desk, 0, 1, 3);
        shift(desk, 1, 0, 1);
        shift(desk, 2, 0, 1);
        pull(desk, 0, 2, 3);
        pull(desk, 1, 5, 3);
        fraction("load 0", desk.load(0, 0), desk.load(0, 1), 1, 15);
        fraction("load 1", desk.load(1, 0), desk.load(1, 1), 5, 12);
        fraction("uneven", desk.uneven(0), desk.uneven(1), 7, 20);
        Check.due("worst", desk.worst(), 1);
        held(desk, 0, 0, 1);
        held(desk, 1, 7, 1);
        held(desk, 2, -8, 1);
        Check.due("accord", desk.accord(0, 1), -1);
        Check.due("accord with itself", desk.accord(1, 1), 1);
        Check.due("no such accord", desk.accord(0, 2), HIDDEN);
        Check.due("no such accord", desk.accord(-1, 0), HIDDEN);
        for (int wrong = -1; wrong <= 2; wrong += 3) {
            Check.due("no such part", desk.pull(0, wrong), HIDDEN);
            Check.due("no such part", desk.load(0, wrong), HIDDEN);
            Check.due("no such part", desk.shift(0, wrong), HIDDEN);
            Check.due("no such part", desk.held(0, wrong), HIDDEN);
            Check.due("no such part", desk.uneven(wrong), HIDDEN);
            Check.due("no such rope", desk.pull(wrong, 0), HIDDEN);
            Check.due("no such rope", desk.load(wrong, 0), HIDDEN);
        }
        Check.due("no such axis", desk.shift(3, 0), HIDDEN);
        Check.due("no such axis", desk.shift(-1, 0), HIDDEN);
        Check.due("no such axis", desk.held(3, 0), HIDDEN);
        Check.due("no such axis", desk.held(-1, 0), HIDDEN);
    }

    private static void pullsBothWays() {
        MooringDesk desk = Check.moored("su4v6w5;rp10;ra-1p10;ra0b1p10x3;ra0b-1p10x2");
        shift(desk, 0, 2, 1);
        shift(desk, 1, 3, 1);
        int[] pulls = {8, 12, 7, 13};
        for (int rope = 0; rope < 4; rope++) {
            pull(desk, rope, pulls[rope], 1);
        }
        // Round is not free: the wind, 7 by an arm of 3, 13 by an arm of -2.
        held(desk, 2, 5 + 21 - 26, 1);
        held(desk, 0, 0, 1);
        held(desk, 1, 0, 1);
        Check.due("most(4)", desk.most(4), 3);
        Check.due("most(5)", desk.most(5), 2);
        Check.due("ways that do not meet", desk.accord(0, 2), 0);
        Check.due("the arm does not count, as round is not free", desk.accord(2, 3), -1);
        Check.due("of several pairs the first", desk.most(8), 1);
    }

    private static void pullsRound() {
        // 12 + (10 - s) - (10 + s) = 0, arms of 1 and -1.
        MooringDesk desk = Check.moored("sf4w12;rx1a0b1p10;rx-1a0b1p10");
        shift(desk, 2, 6, 1);
        shift(desk, 1, 0, 1);
        pull(desk, 0, 4, 1);
        pull(desk, 1, 16, 1);
        held(desk, 1, 20, 1);
        held(desk, 0, 0, 1);
        held(desk, 2, 0, 1);
        Check.due("accord by arms alone", desk.accord(0, 1), -1);
    }

    private static void allThreeAxes() {
        // Two ropes each way that turn it against each other: along s 3, round w 4 by arms of 1.
        MooringDesk desk = Check.moored("sf7u6w4;ry1p20;ry-1p20;ra-1y1p20;ra-1y-1p20;rb1a0p5;ra0b-1p5");
        shift(desk, 0, 3, 2);
        shift(desk, 1, 0, 1);
        shift(desk, 2, 1, 1);
        // Arms: -1, 1, 1, -1; pulls: 20 less way times shift.
        pull(desk, 0, 39, 2);
        pull(desk, 1, 35, 2);
        pull(desk, 2, 41, 2);
        pull(desk, 3, 45, 2);
        held(desk, 0, 0, 1);
        held(desk, 1, 0, 1);
        held(desk, 2, 0, 1);
        Check.due("accord of all three", desk.accord(0, 1), 0);
        Check.due("accord of all three", desk.accord(0, 2), -2);
        Check.due("the first with the least", desk.most(8), 2);
    }

    private static void ties() {
        MooringDesk desk = Check.moored("sf1;rp5t10;ra-1p5t10");
        Check.due("worst", desk.worst(), 0);
        Check.due("greatest", desk.most(4), 0);
        Check.due("least", desk.most(5), 0);
        fraction("uneven", desk.uneven(0), desk.uneven(1), 0, 1);
    }

    private static void brokenAsTold() {
        MooringDesk desk = new MooringDesk();
        Check.due("both are pulled above their strength", Check.tell(desk, 0, "sf1;rp9t5;ra-1p9t5"), 2);
        Check.due("the lowest broke", desk.most(2), 1);
        Check.due("the other holds", desk.most(0), 2);
        Check.due("broke as it was told", desk.most(7), 1);
        Check.due("tries", desk.rule(4), 2);
        Check.due("no log by it", desk.count(3), 0);
        Check.due("broken", desk.rope(0, 8), 2);
        Check.due("no pull", desk.pull(0, 0), HIDDEN);
        Check.due("no load", desk.load(0, 0), HIDDEN);
        Check.due("its way is still known", desk.accord(0, 1), -1);
        pull(desk, 1, 0, 1);
        Check.due("as strong as pulled does not break", Check.tell(desk, 0, "sf1;rp9t9;ra-1p9t9"), 2);
        Check.due("none broke", desk.most(7), 0);
    }

    private static void worstBreaksFirst() {
        // 5 of each: by 4 and by 3, and the one that is left bears 15.
        MooringDesk desk = Check.moored("sf1u12;ra-1p-4t4;ra-1p-4t3;ra-1p-4t20;r");
        Check.due("the rope ahead", desk.most(2), 3);
        MooringDesk other = Check.moored("sf1;ra-1t4;ra-1t3;ra-1t20;r");
        other.wind(15, 0, 0);
        Check.due("by load, not by number", other.log(0, 2), 3);
        Check.due("the first one", Check.moored("sf1;ra-1t4;ra-1t3;ra-1t20;r").fall(15, 0, 0, 0, 0), 1);
        Check.due("the second one", Check.moored("sf1;ra-1t4;ra-1t3;ra-1t20;r").fall(15, 0, 0, 1, 0), 0);
    }

    private static void slackAndTakenAgain() {
        MooringDesk desk = Check.moored("sf1;rp5;ra-1p5");
        desk.wind(11, 0, 0);
        Check.due("slack", desk.rope(0, 8), 1);
        Check.due("bits", desk.most(1), 1);
        pull(desk, 0, -1, 1);
        Check.due("two shifts", desk.rule(4), 2);
        desk.wind(-1, 0, 0);
        Check.due("a pull of 0 is not taken again", desk.rope(0, 8), 1);
        pull(desk, 0, 0, 1);
        Check.due("one shift", desk.rule(4), 1);
        desk.wind(-1, 0, 0);
        Check.due("taken again", desk.rope(0, 8), 0);
        pull(desk, 0, 1, 2);
        desk.wind(1, 0, 0);
        Check.due("a pull of 0 is not dropped", desk.rope(0, 8), 0);
        pull(desk, 0, 0, 1);
    }

    private static void shares() {
        MooringDesk desk = Check.moored("sf1u1;ra-1k2;ra-1k5;r");
        Check.due("rope 2 is slack", desk.most(1), 4);
        Check.due("2 of 7", desk.shares(0, 100), 28);
        Check.due("5 of 7", desk.shares(1, 999), 713);
        Check.due("of nothing", desk.shares(1, 0), 0);
        Check.due("not taut", desk.shares(2, 100), -1);
        Check.due("no such rope", desk.shares(3, 100), -1);
        Check.due("no such rope", desk.shares(-1, 100), -1);
        Check.due("out of bounds", desk.shares(0, 1000), -1);
        Check.due("out of bounds", desk.shares(0, -1), -1);
    }

    private static void most() {
        MooringDesk desk = Check.moored("sf1u1;ra-1k2;ra-1k5;r;ra-1t1");
        desk.cast(0);
        desk.wind(9, 0, 0);
        Check.due("taut", desk.most(0), 2);
        Check.due("slack", desk.most(1), 4);
        Check.due("broken", desk.most(2), 8);
        Check.due("cast off", desk.most(3), 1);
        Check.due("states", desk.rope(0, 8), 3);
        Check.due("stiffness", desk.most(6), 5);
        Check.due("broke", desk.most(7), 1);
        Check.due("one alone is taut", desk.most(8), -1);
        Check.due("no such", desk.most(9), HIDDEN);
        Check.due("no such", desk.most(-1), HIDDEN);
        desk.renew(3);
        Check.due("broke again", desk.most(7), 2);
        desk.undo();
        desk.undo();
        Check.due("acts that are undone do not count", desk.most(7), 0);
    }

    private static void largeNumbers() {
        // Ways, arms and stiffness as far as they go; the balance shows that nothing ran over.
        MooringDesk desk = Check.moored("sf7u99v99w999;rk9x4y-4a4b4p50;rk9x-4y4a-4b-4p50;rk9x4y4a-4b4p50;rk9x-4y-4a4b-4p50;"
            + "rk9x4y3a4b-4p50;rk9x-4y3a-4b4p50;rk9x3y-4a4b3p50;rk9x-4y-3a-3b-4p50");
        for (int axis = 0; axis < 3; axis++) {
            double sum = desk.rule(axis + 1);
            for (int rope = 0; rope < 8; rope++) {
                if (desk.rope(rope, 8) == 0) {
                    int way = desk.rope(rope, axis + 3);
                    sum += (double) desk.pull(rope, 0) / desk.pull(rope, 1) * way;
                }
            }
            Check.due("balance on " + axis, Math.round(sum * 1000), 0);
        }
    }
}
