/** Promises 36, 38 and 39: years by a seed, images. */
public final class DrawTest {
    private static final String TEXT = "s;rp20t60;ra-1p20t40;ra0b1p20t60;ra0b-1p20t40;rb2p9t30;ra-1b-1k3p9t50";
    private long x = 0;

    private DrawTest() {
    }

    public static void main(String[] args) {
        for (long seed : new long[] {0, 1, -1, 42, Long.MIN_VALUE, Long.MAX_VALUE, 123456789012345L}) {
            new DrawTest().years(seed);
        }
        yearsBounds();
        images();
        imageOfTheLog();
        Check.finish("DrawTest");
    }

    private int draw(int of) {
        x = x * 6364136223846793005L + 1442695040888963407L;
        return (int) Long.remainderUnsigned(x >>> 33, of);
    }

    private void byHand(MooringDesk desk) {
        int sort = draw(8);
        if (sort < 5) {
            int along = draw(21) - 10;
            int across = draw(21) - 10;
            int round = draw(61) - 30;
            desk.wind(along, across, round);
        } else if (sort < 7) {
            int rope = draw(6);
            desk.winch(rope, draw(7) - 3);
        } else {
            int rope = draw(6);
            if (desk.rope(rope, 8) < 2) {
                desk.cast(rope);
            } else {
                desk.renew(rope);
            }
        }
    }

    private void years(long seed) {
        MooringDesk desk = Check.moored(TEXT);
        MooringDesk other = Check.moored(TEXT);
        Check.due("forty years", desk.years(40, seed) == desk.most(0), true);
        x = seed;
        for (int i = 0; i < 40; i++) {
            byHand(other);
        }
        same(desk, other);
        Check.due("acts", desk.count(4), other.count(4));
        for (int what = 0; what <= 4; what++) {
            Check.due("no status", desk.status(what), 0);
        }
        Check.due("no causes", desk.cause(0), -1);
        Check.due("something came", desk.count(4) > 5, true);
        while (other.undo() >= 0) {
            desk.undo();
            same(desk, other);
        }
    }

    private static void same(MooringDesk desk, MooringDesk other) {
        for (int what = 0; what <= 8; what++) {
            Check.due("most " + what, desk.most(what), other.most(what));
            for (int rope = 0; rope < 6; rope++) {
                Check.due("rope " + rope + " " + what, desk.rope(rope, what), other.rope(rope, what));
            }
        }
        for (int what = 0; what <= 4; what++) {
            Check.due("rule " + what, desk.rule(what), other.rule(what));
        }
        Check.due("lines", desk.count(3), other.count(3));
        for (int i = 0; i < other.count(3); i++) {
            for (int what = 0; what <= 2; what++) {
                Check.due("log " + i, desk.log(i, what), other.log(i, what));
            }
        }
    }

    private static void yearsBounds() {
        MooringDesk desk = Check.moored(TEXT);
        Check.due("n", desk.years(0, 1), -1);
        Check.due("n", desk.years(41, 1), -1);
        Check.due("n", desk.years(-1, 1), -1);
        Check.due("nothing came", desk.count(3), 0);
        Check.due("no mooring", new MooringDesk().years(1, 1), -1);
    }

    private static void images() {
        MooringDesk desk = Check.moored("sf1;rp5;ra-1p5;ra-1t1");
        Check.due("no image", desk.back(), -1);
        desk.wind(1, 2, 3);
        desk.winch(0, 1);
        Check.due("an image", desk.image(), 7);
        int tries = desk.rule(4);
        Check.due("breaks", desk.wind(20, 0, 0), 4);
        desk.cast(0);
        desk.wind(0, 0, 0);
        Check.due("tries changed", desk.rule(4) == tries && desk.most(0) == 7, false);
        Check.due("back", desk.back(), 7);
        Check.due("wind", desk.rule(1), 1);
        Check.due("wind", desk.rule(2), 2);
        Check.due("tries", desk.rule(4), tries);
        Check.due("p", desk.rope(0, 7), 6);
        Check.due("is", desk.rope(2, 8), 0);
        Check.due("log", desk.count(3), 2);
        Check.due("log", desk.log(0, 0), 1);
        Check.due("none broke by acts that stand", desk.most(7), 0);
        Check.due("no act can be undone", desk.count(4), 0);
        Check.due("no act can be undone", desk.undo(), -1);
        Check.due("status stays", desk.status(2), 1);
        desk.cast(0);
        Check.due("back again", desk.back(), 7);
        desk.cast(2);
        Check.due("instead of the one ahead", desk.image(), 3);
        desk.undo();
        Check.due("undone", desk.rope(2, 8), 0);
        Check.due("an image knows no undo", desk.back(), 3);
        Check.due("is", desk.rope(2, 8), 3);
        Check.tell(desk, 0, "sf1;rp5;ra-1p5;ra-1t1");
        Check.due("not of this mooring", desk.back(), -1);
        Check.due("no mooring", new MooringDesk().image(), -1);
        Check.due("no mooring", new MooringDesk().back(), -1);
    }

    private static void imageOfTheLog() {
        MooringDesk desk = Check.moored("sf1;rp5;ra-1p5;ra-1p5");
        for (int i = 0; i < 70; i++) {
            if (i % 7 == 0) {
                desk.winch(2, i % 2 == 0 ? 1 : -1);
            } else {
                desk.wind(0, 1, 0);
            }
        }
        desk.image();
        for (int i = 0; i < 100; i++) {
            desk.wind(0, 1, 0);
        }
        desk.back();
        Check.due("sixty lines", desk.count(3), 60);
        for (int i = 0; i < 60; i++) {
            Check.due("line " + i, desk.log(i, 0), (69 - i) % 7 == 0 ? 1 : 0);
        }
        desk.cast(2);
        Check.due("one more", desk.log(0, 0), 2);
        Check.due("one more", desk.log(1, 1), -1);
        Check.due("sixty still", desk.count(3), 60);
        desk.undo();
        Check.due("sixty again", desk.count(3), 60);
        Check.due("the oldest", desk.log(59, 0), 0);
        Check.due("no older", desk.log(60, 0), MooringDesk.HIDDEN);
    }
}
