/** Promises 2 to 5 and 21: the tape, faults, texts told, steps. */
public final class TextTest {
    private TextTest() {
    }

    public static void main(String[] args) {
        tape();
        mooringFaults();
        numberFaults();
        scriptFaults();
        texts();
        steps();
        Check.finish("TextTest");
    }

    private static void tape() {
        MooringDesk desk = new MooringDesk();
        Check.due("nothing fed", desk.feed(0, 0, 0, 0, 0), 0);
        Check.due("zeros are left out", desk.feed(0x72000000, 0x00006b00, 0, 0x00000031, 0), 3);
        Check.due("the highest byte comes first", desk.fault(0), -1);
        Check.due("end below 0", desk.end(-1), false);
        Check.due("end above the length", desk.end(4), false);
        Check.due("still all there", desk.count(2), 3);
        Check.due("end cuts", desk.end(2), true);
        Check.due("behind k nothing", desk.fault(0), 2);
        Check.due("end at the length", desk.end(2), true);
        Check.due("end at 0", desk.end(0), true);
        Check.due("emptied", desk.count(2), 0);
        for (int i = 1; i <= 12; i++) {
            Check.due("feed " + i, desk.feed(-1, -1, -1, -1, -1), 20 * i);
        }
        Check.due("a 241st byte", desk.feed(0, 0, 0, 0, 1), -1);
        Check.due("nothing changes by it", desk.count(2), 240);
        Check.due("zeros alone are no more", desk.feed(0, 0, 0, 0, 0), 240);
        Check.due("end at 239", desk.end(239), true);
        Check.due("two bytes into one", desk.feed(0x01010000, 0, 0, 0, 0), -1);
        Check.due("one byte into one", desk.feed(0, 0, 0, 0, 1), 240);
        Check.due("bytes above 127 are faults", desk.fault(0), 0);
    }

    private static void mooringFaults() {
        due(0, "", 0);
        due(0, "   ", 3);
        due(0, "s", 1);
        due(0, "s;", 2);
        due(0, "s ; ", 4);
        due(0, "r", -1);
        due(0, "r;", 2);
        due(0, ";r", 0);
        due(0, "r;;r", 2);
        due(0, "R", 0);
        due(0, "rr", 1);
        due(0, "rs", 1);
        due(0, "r;s", -1);
        due(0, "r;s;r", -1);
        due(0, "s;r;s", 4);
        due(0, "s;r;su1", 4);
        due(0, "r;r;r;r;s;r;r;r;r", -1);
        due(0, "r;r;r;r;r;r;r;r;s", -1);
        due(0, "r;r;r;r;r;r;r;r;r", 16);
        due(0, "s;r;r;r;r;r;r;r;r;r", 18);
        due(0, "r;r;r;r;r;r;r;r;s;s", 18);
        due(0, "r;r;r;r;r;r;r;r;s;", 18);
        due(0, "rf1", 1);
        due(0, "sk1;r", 1);
        due(0, "sp1;r", 1);
        due(0, "ru1", 1);
        due(0, "rk1x1y1a1b1p1t1", -1);
        due(0, "rt1p1b1a1y1x1k1", -1);
        due(0, "rk1x1y1a1b1p1t1k1", 15);
        due(0, "sf1u1v1w1;r", -1);
        due(0, "sf1u1v1w1f1;r", 9);
        due(0, "sf1f1;r", 3);
        due(0, "rk1;rk1", -1);
        due(0, "ra0", 3);
        due(0, "ra0 ", 4);
        due(0, "ra0b0", 5);
        due(0, "ra0;r", 5);
        due(0, "ra0;rz", 5);
        due(0, "r;ra0;", 6);
        due(0, "ra0b1", -1);
        due(0, "rb0", -1);
        due(0, " r k 1 ; s f 1 ", -1);
        due(0, "r\tk1", 1);
    }

    private static void numberFaults() {
        due(0, "rk", 2);
        due(0, "rk ", 3);
        due(0, "rk-", 3);
        due(0, "rk- 1", 3);
        due(0, "rx--1", 3);
        due(0, "rx+1", 2);
        due(0, "rx1 2", 4);
        due(0, "rx -4", -1);
        due(0, "rx-0", -1);
        due(0, "rx004", -1);
        due(0, "rx0004", 5);
        due(0, "rx-0004", 6);
        due(0, "rx5", 2);
        due(0, "rx-5", 3);
        due(0, "ry5", 2);
        due(0, "rb-5", 3);
        due(0, "ra5", 2);
        due(0, "rk0", 2);
        due(0, "rk00", 3);
        due(0, "rk01", -1);
        due(0, "rk9", -1);
        due(0, "rk10", 3);
        due(0, "rk100", 4);
        due(0, "rk1000", 5);
        due(0, "rk10z", 3);
        due(0, "rk-1", 3);
        due(0, "rp50", -1);
        due(0, "rp-50", -1);
        due(0, "rp-51", 4);
        due(0, "rt999", -1);
        due(0, "rt0", 2);
        due(0, "rt9999", 5);
        due(0, "sf7;r", -1);
        due(0, "sf8;r", 2);
        due(0, "sf0;r", 2);
        due(0, "su99v-99w999;r", -1);
        due(0, "su100;r", 4);
        due(0, "su1000;r", 5);
        due(0, "sv-100;r", 5);
        due(0, "sw-999;r", -1);
        due(0, "sw-1000;r", 6);
    }

    private static void scriptFaults() {
        due(1, "", 0);
        due(1, "  ", 2);
        due(1, "w1,2,3", -1);
        due(1, " w -1 , 2 , 003 ; c 0 ; n 9 ; h 9 : -9 ", -1);
        due(1, "w", 1);
        due(1, "w,", 1);
        due(1, "w1", 2);
        due(1, "w1;", 2);
        due(1, "w1,", 3);
        due(1, "w1,2,", 5);
        due(1, "w1,2,3,4", 6);
        due(1, "w1,2,3;", 7);
        due(1, "w100,0,0", 3);
        due(1, "w0,-100,0", 6);
        due(1, "w0,0,1000", 8);
        due(1, "w99,-99,999", -1);
        due(1, "w0,0,0", -1);
        due(1, "h1:2", -1);
        due(1, "h1 2", 3);
        due(1, "h12:3", 2);
        due(1, "h-1:3", 1);
        due(1, "h1:", 3);
        due(1, "h1:-", 4);
        due(1, "h1:-10", 5);
        due(1, "h1:009", -1);
        due(1, "h1:0009", 6);
        due(1, "c", 1);
        due(1, "c12", 2);
        due(1, "c-1", 1);
        due(1, "n8", -1);
        due(1, "nx", 1);
        due(1, "c1;", 3);
        due(1, "c1;;", 3);
        due(1, "c1 n1", 3);
        due(1, "s", 0);
        String sixteen = "c1;c1;c1;c1;c1;c1;c1;c1;c1;c1;c1;c1;c1;c1;c1;c1";
        due(1, sixteen, -1);
        due(1, sixteen + " ", -1);
        due(1, sixteen + ";", 47);
        due(1, sixteen + " ;c1", 48);
    }

    private static void due(int sort, String text, int fault) {
        Check.due("fault " + sort + " of '" + text + "'", Check.fault(sort, text), fault);
    }

    private static void texts() {
        MooringDesk desk = new MooringDesk();
        Check.due("no such sort", desk.fault(-1), -2);
        Check.due("no such sort", desk.fault(2), -2);
        Check.tape(desk, "c1");
        Check.due("no such sort", desk.text(2), -1);
        Check.due("the tape stays", desk.count(2), 2);
        Check.due("a fault", desk.text(0), -1);
        Check.due("the tape stays", desk.count(2), 2);
        for (int i = 0; i < 4; i++) {
            Check.due("script " + i, Check.tell(desk, 1, "c" + i), i);
            Check.due("the tape is empty", desk.count(2), 0);
        }
        Check.due("a fifth", Check.tell(desk, 1, "c4"), -1);
        Check.due("the tape stays", desk.count(2), 2);
        Check.due("no fault in it", desk.fault(1), -1);
        Check.due("four scripts", desk.count(1), 4);
        Check.due("the fourth is as told", desk.step(3, 0, 1), 3);
        Check.due("a mooring", Check.tell(desk, 0, "sf1;r;ra-1"), 2);
        desk.wind(1, 0, 0);
        desk.wind(0, 0, 0);
        desk.image();
        Check.due("adrift", Check.tell(desk, 0, "sf3;r;ra-1"), -2);
        Check.due("the tape is empty", desk.count(2), 0);
        Check.due("all else stays", desk.rule(1), 1);
        Check.due("its acts, too", desk.count(4), 1);
        Check.due("its image, too", desk.back(), 2);
        Check.due("no status by it", desk.status(3), 0);
        desk.wind(1, 0, 0);
        Check.due("another", Check.tell(desk, 0, "sf1u2;rp9;ra-1p9;r"), 3);
        Check.due("no log", desk.count(3), 0);
        Check.due("no acts", desk.count(4), 0);
        Check.due("no image", desk.back(), -1);
        Check.due("its wind", desk.rule(1), 2);
        Check.due("scripts stay", desk.count(1), 4);
        Check.due("status stays", desk.status(2), 1);
        Check.due("causes stay", desk.cause(0), 100);
        Check.due("causes stay", desk.cause(1), 2);
    }

    private static void steps() {
        MooringDesk desk = new MooringDesk();
        Check.tell(desk, 1, "w-1,22,-333;h7:-9;c0;n9");
        int[][] want = {{0, -1, 22, -333}, {1, 7, -9, MooringDesk.HIDDEN},
            {2, 0, MooringDesk.HIDDEN, MooringDesk.HIDDEN}, {3, 9, MooringDesk.HIDDEN, MooringDesk.HIDDEN}};
        for (int i = 0; i < 4; i++) {
            for (int what = 0; what < 4; what++) {
                Check.due("step " + i + ", " + what, desk.step(0, i, what), want[i][what]);
            }
        }
        Check.due("no such step", desk.step(0, 4, 0), MooringDesk.HIDDEN);
        Check.due("no such step", desk.step(0, -1, 0), MooringDesk.HIDDEN);
        Check.due("no such script", desk.step(1, 0, 0), MooringDesk.HIDDEN);
        Check.due("no such script", desk.step(-1, 0, 0), MooringDesk.HIDDEN);
        Check.due("no such what", desk.step(0, 0, 4), MooringDesk.HIDDEN);
        Check.due("no such what", desk.step(0, 0, -1), MooringDesk.HIDDEN);
    }
}
