import java.util.NoSuchElementException;

/** What the tests share: told answers, texts put on a tape, and a count of what was wrong. */
final class Check {
    private static int wrong = 0;
    private static int checks = 0;

    private Check() {
    }

    static void due(String what, long got, long want) {
        checks++;
        if (got != want) {
            wrong++;
            System.out.println(what + " answered " + got + ", due is " + want);
        }
    }

    static void due(String what, boolean got, boolean want) {
        due(what, got ? 1 : 0, want ? 1 : 0);
    }

    static void noSuch(String what, MooringDesk desk, int rope, int item) {
        boolean thrown = false;
        try {
            desk.rope(rope, item);
        } catch (NoSuchElementException e) {
            thrown = true;
        }
        due(what + " throws", thrown, true);
    }

    /** Puts a text behind what the tape has, twenty bytes a call; false if the tape is full. */
    static boolean feed(MooringDesk desk, String text) {
        for (int i = 0; i < text.length(); i += 20) {
            int[] numbers = new int[5];
            for (int j = 0; j < 20 && i + j < text.length(); j++) {
                numbers[j / 4] |= (text.charAt(i + j) & 255) << 24 - 8 * (j % 4);
            }
            if (desk.feed(numbers[0], numbers[1], numbers[2], numbers[3], numbers[4]) == MooringDesk.NONE) {
                return false;
            }
        }
        return true;
    }

    static void tape(MooringDesk desk, String text) {
        desk.end(0);
        due("feeding " + text, feed(desk, text), true);
    }

    /** The fault of a text. */
    static int fault(int sort, String text) {
        MooringDesk desk = new MooringDesk();
        tape(desk, text);
        return desk.fault(sort);
    }

    static int tell(MooringDesk desk, int sort, String text) {
        tape(desk, text);
        return desk.text(sort);
    }

    /** A new desk with a mooring that is due to settle. */
    static MooringDesk moored(String text) {
        MooringDesk desk = new MooringDesk();
        int ropes = tell(desk, 0, text);
        due(text + " is told", ropes > 0, true);
        return desk;
    }

    static void finish(String name) {
        System.out.println(name + ": " + checks + " checks, " + wrong + " wrong");
        if (wrong != 0 || checks == 0) {
            System.exit(1);
        }
    }
}
