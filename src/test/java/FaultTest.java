import java.util.HashMap;
import java.util.Map;
import java.util.Random;
import java.util.regex.Matcher;
import java.util.regex.Pattern;

/** Faults of drawn texts, compared with patterns of the library: how far a text can go on, then what is wrong within it. */
public final class FaultTest {
    private static final Pattern MOORING = pattern("(s( *[fuvw] *-?\\d{1,3})*|r( *[kxyabpt] *-?\\d{1,3})*)");
    private static final Pattern SCRIPT = pattern("(w *-?\\d{1,3} *, *-?\\d{1,3} *, *-?\\d{1,3}|h *\\d *: *-?\\d{1,3}|[cn] *\\d)");
    private static final Pattern TOKEN = Pattern.compile("-?\\d+|[^ \\d]");
    private static final Map<String, int[]> BOUNDS = new HashMap<>();
    private static final String[] MOORINGS = {"sf3u-99v99w-999;rk9x-4y4a1b0p-50t999;r", "r;r;r;r;r;r;r;r", "r;r;r;r;s;r;r;r;r",
        "ra0b1;ra1b0;rk1", "s;ra-0b4;rp07", "sw12;rt100k2"};
    private static final String[] SCRIPTS = {"w-99,99,-999;h9:-9;c0;n9", "c1;c2;c3;c4;c5;c6;c7;c8;c9;c0;n1;n2;n3;n4;n5;h6:7",
        "h0:0;w1,2,3", "n5"};
    private static final String SIGNS = "srfuvwkxyabpt0123456789-;: ,hcn";

    static {
        String[] told = {"sf 1 7", "su -99 99", "sv -99 99", "sw -999 999", "rk 1 9", "rx -4 4", "ry -4 4", "ra -4 4", "rb -4 4",
            "rp -50 50", "rt 1 999"};
        for (String line : told) {
            String[] parts = line.split(" ");
            BOUNDS.put(parts[0], new int[] {Integer.parseInt(parts[1]), Integer.parseInt(parts[2])});
        }
    }

    private FaultTest() {
    }

    private static Pattern pattern(String part) {
        return Pattern.compile(" *" + part + "( *; *" + part + ")* *");
    }

    public static void main(String[] args) {
        Random random = new Random(7);
        int[] seen = new int[4];
        for (int i = 0; i < 60000; i++) {
            int sort = i & 1;
            String[] all = sort == 0 ? MOORINGS : SCRIPTS;
            String text = changed(random, all[random.nextInt(all.length)]);
            int want = sort == 0 ? faultOfMooring(text) : faultOfScript(text);
            Check.due("fault " + sort + " of '" + text + "'", Check.fault(sort, text), want);
            seen[2 * sort + (want == -1 ? 0 : 1)]++;
        }
        for (int n : seen) {
            Check.due("of all sorts", n > 1000, true);
        }
        Check.finish("FaultTest");
    }

    private static String changed(Random random, String whole) {
        StringBuilder text = new StringBuilder(whole);
        int changes = random.nextInt(4);
        for (int i = 0; i < changes; i++) {
            int at = random.nextInt(text.length() + 1);
            String sign = "" + SIGNS.charAt(random.nextInt(SIGNS.length()));
            int how = random.nextInt(6);
            if (how == 0) {
                text.setLength(at);
            } else if (how == 1 && at < text.length()) {
                text.deleteCharAt(at);
            } else if (how == 2 && at < text.length()) {
                text.replace(at, at + 1, sign);
            } else if (how == 3) {
                text.insert(at, " ");
            } else if (how == 4) {
                text.insert(at, "" + random.nextInt(10));
            } else {
                text.insert(at, sign);
            }
        }
        return text.toString();
    }

    /** The first byte behind which nothing can match, or the length, or -1 if it is whole. */
    private static int faultOfForm(Pattern form, String text) {
        for (int n = 1; n <= text.length(); n++) {
            Matcher matcher = form.matcher(text.substring(0, n));
            if (!matcher.matches() && !matcher.hitEnd()) {
                return n - 1;
            }
        }
        return form.matcher(text).matches() ? -1 : text.length();
    }

    private static boolean isNumber(String token) {
        return Character.isDigit(token.charAt(token.length() - 1));
    }

    private static boolean isBeyond(String token, int least, int most) {
        if (token.replace("-", "").length() > 3) {
            return false;
        }
        int number = Integer.parseInt(token);
        return number < least || number > most;
    }

    private static int faultOfMooring(String text) {
        int form = faultOfForm(MOORING, text);
        int end = form == -1 ? text.length() : form;
        Matcher tokens = TOKEN.matcher(text);
        String clause = "";
        String letters = "";
        String letter = "";
        int rules = 0;
        int ropes = 0;
        int[] way = {1, 0};
        boolean isNowhere = false;
        while (tokens.find() && tokens.start() < end) {
            String token = tokens.group();
            if (token.equals("s") || token.equals("r")) {
                clause = token;
                letters = "";
                rules += token.equals("s") ? 1 : 0;
                ropes += token.equals("r") ? 1 : 0;
                way = new int[] {1, 0};
                if (rules > 1 || ropes > 8) {
                    return tokens.start();
                }
            } else if (token.equals(";")) {
                isNowhere |= clause.equals("r") && way[0] == 0 && way[1] == 0;
            } else if (isNumber(token)) {
                int[] bounds = BOUNDS.get(clause + letter);
                if (isBeyond(token, bounds[0], bounds[1])) {
                    return tokens.end() - 1;
                }
                if (token.replace("-", "").length() <= 3 && (letter.equals("a") || letter.equals("b"))) {
                    way[letter.charAt(0) - 'a'] = Integer.parseInt(token);
                }
            } else if (!token.equals("-")) {
                if (letters.contains(token)) {
                    return tokens.start();
                }
                letter = token;
                letters += token;
            }
        }
        isNowhere |= clause.equals("r") && way[0] == 0 && way[1] == 0;
        return form == -1 && (ropes == 0 || isNowhere) ? text.length() : form;
    }

    private static int faultOfScript(String text) {
        int form = faultOfForm(SCRIPT, text);
        int end = form == -1 ? text.length() : form;
        Matcher tokens = TOKEN.matcher(text);
        int steps = 1;
        int numbers = 0;
        char sort = ' ';
        while (tokens.find() && tokens.start() < end) {
            String token = tokens.group();
            if (token.equals(";")) {
                steps++;
                if (steps > 16) {
                    return tokens.start();
                }
            } else if (isNumber(token)) {
                int most = sort == 'w' ? numbers == 2 ? 999 : 99 : 9;
                numbers++;
                if (isBeyond(token, -most, most) && tokens.end() - 1 < end) {
                    return tokens.end() - 1;
                }
            } else if ("whcn".contains(token)) {
                sort = token.charAt(0);
                numbers = 0;
            }
        }
        return form;
    }
}
