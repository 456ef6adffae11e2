import java.util.NoSuchElementException;
import java.util.Random;

/** Calls with any arguments in any state: none throws but rope, and that only as the document says. */
public final class WildTest {
    private static final int[] WILD = {Integer.MIN_VALUE, Integer.MIN_VALUE + 1, -1000001, -1000, -100, -10, -9, -2, -1, 0, 1, 2,
        3, 4, 5, 7, 8, 9, 10, 16, 40, 41, 60, 61, 99, 100, 240, 999, 1000, 10000, 1 << 16, Integer.MAX_VALUE - 1, Integer.MAX_VALUE};
    private static final String SIGNS = "srfuvwkxyabpt0123456789-;: ,hcnw\u00e9";
    private final Random random;
    private final MooringDesk desk = new MooringDesk();

    private WildTest(long seed) {
        random = new Random(seed);
    }

    public static void main(String[] args) {
        for (int run = 0; run < 400; run++) {
            new WildTest(run).go(run);
        }
        Check.finish("WildTest");
    }

    private int wild() {
        int d = random.nextInt(10);
        return d == 0 ? random.nextInt() : d < 4 ? WILD[random.nextInt(WILD.length)] : random.nextInt(9);
    }

    private void go(int run) {
        for (int i = 0; i < 512; i++) {
            if (random.nextInt(12) == 0) {
                feedSomething();
            } else {
                call(random.nextInt(39));
            }
            Check.due("run " + run + ": some rope is taut, or no mooring", desk.count(0) == 0 || desk.most(0) > 0, true);
            Check.due("run " + run + ": the tape", desk.count(2) >= 0 && desk.count(2) <= 240, true);
        }
    }

    private void feedSomething() {
        String[] texts = {"sf1u10;ra1k2p5;ra-1k3p5", "sf7;rx2y1a1b0p9k2;rx-2y1a-1b0p9;rx2y-1a0b1p9;rx-2y-1a0b-1p9;r",
            "s;rp50t30;ra-1p50t60;ra0b1p9;ra0b-1p9", "w1,0,0;c1;h0:2;n1", "w-2,5,9;h3:-3"};
        StringBuilder text = new StringBuilder();
        if (random.nextInt(3) > 0) {
            desk.end(0);
            text.append(texts[random.nextInt(texts.length)]);
        } else {
            int length = random.nextInt(24);
            for (int i = 0; i < length; i++) {
                text.append(SIGNS.charAt(random.nextInt(SIGNS.length())));
            }
        }
        Check.feed(desk, text.toString());
        desk.text(random.nextInt(3));
    }

    private void rope(int rope, int what) {
        boolean isThere = rope >= 0 && rope < desk.count(0) && what >= 0 && what <= 8;
        boolean thrown = false;
        try {
            desk.rope(rope, what);
        } catch (NoSuchElementException e) {
            thrown = true;
        }
        Check.due("rope " + rope + " " + what, thrown, !isThere);
    }

    private void call(int which) {
        int a = wild();
        int b = wild();
        int c = wild();
        int d = wild();
        switch (which) {
            case 0: desk.feed(a, b, c, d, wild()); break;
            case 1: desk.end(a); break;
            case 2: desk.fault(a); break;
            case 3: desk.text(a); break;
            case 4: desk.rule(a); break;
            case 5: rope(a, b); break;
            case 6: desk.pull(a, b); break;
            case 7: desk.shift(a, b); break;
            case 8: desk.held(a, b); break;
            case 9: desk.load(a, b); break;
            case 10: desk.worst(); break;
            case 11: desk.wind(a, b, c); break;
            case 12: desk.winch(a, b); break;
            case 13: desk.cast(a); break;
            case 14: desk.renew(a); break;
            case 15: desk.status(a); break;
            case 16: desk.cause(a); break;
            case 17: desk.undo(); break;
            case 18: desk.log(a, b); break;
            case 19: desk.step(a, b, c); break;
            case 20: desk.run(a, b); break;
            case 21: desk.perform(a); break;
            case 22: desk.stand(a, b, c, d); break;
            case 23: desk.fall(a, b, c, d, wild()); break;
            case 24: desk.ease(a); break;
            case 25: desk.range(a, random.nextBoolean()); break;
            case 26: desk.uneven(a); break;
            case 27: desk.accord(a, b); break;
            case 28: desk.trim(a, b); break;
            case 29: desk.fewest(a); break;
            case 30: desk.without(a, b); break;
            case 31: desk.key(); break;
            case 32: desk.odds(a, b, c, d, wild()); break;
            case 33: desk.shares(a, b); break;
            case 34: desk.years(a, random.nextLong()); break;
            case 35: desk.most(a); break;
            case 36: desk.image(); break;
            case 37: desk.back(); break;
            default: desk.count(a);
        }
    }
}
