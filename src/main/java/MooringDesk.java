import java.util.Arrays;
import java.util.NoSuchElementException;

/** A ship at a pier, held by ropes of unlike stretch; ../shared/DOC.md says what each call promises. */
public final class MooringDesk {
    public static final int NONE = -1;
    public static final int HIDDEN = -1000000;

    private static final int CANNOT_SETTLE = -2;
    private static final int NO_SORT = -2;

    private static final int MOST_ROPES = 8;
    private static final int MOST_STEPS = 16;
    private static final int MOST_SCRIPTS = 4;
    private static final int TAPE_BYTES = 240;
    private static final int UNDOABLE = 40;
    private static final int LOG_LINES = 60;
    private static final int REPEATS = 60;
    private static final int AXES = 3;
    private static final int ALL_PARTS = 1000000000;
    private static final int MOST_YEARS = 40;

    private static final int WIND = 0;
    private static final int WINCH = 1;
    private static final int CAST_OFF = 2;
    private static final int RENEW = 3;

    private static final int TAUT = 0;
    private static final int SLACK = 1;
    private static final int BROKEN = 2;
    private static final int CAST = 3;

    private static final int SETTLED = -1;
    private static final int NO_SUCH = 0;
    private static final int BEYOND = 1;
    private static final int SO_ALREADY = 2;
    private static final int ADRIFT = 3;
    private static final int ROUND_FOR_EVER = 4;

    private static final int[] GUST_MOST = {99, 99, 999};
    private static final int[] WIND_MOST = {999, 999, 9999};
    private static final int LAID_MOST = 999;
    private static final int TURN_MOST = 9;

    private static final int STIFFNESS = 0;
    private static final int SHIP_X = 1;
    private static final int SHIP_Y = 2;
    private static final int GOES_ALONG = 3;
    private static final int GOES_ACROSS = 4;
    private static final int LAID = 5;
    private static final int STRENGTH = 6;
    private static final int ITEMS = 7;
    private static final char[] ROPE_LETTERS = {'k', 'x', 'y', 'a', 'b', 'p', 't'};
    private static final int[] ROPE_LEAST = {1, -4, -4, -4, -4, -50, 1};
    private static final int[] ROPE_MOST = {9, 4, 4, 4, 4, 50, 999};
    private static final int[] ROPE_UNTOLD = {1, 0, 0, 1, 0, 0, 999};

    private static final int FREE = 0;
    private static final int RULES = 4;
    private static final char[] RULE_LETTERS = {'f', 'u', 'v', 'w'};
    private static final int[] RULE_LEAST = {1, -99, -99, -999};
    private static final int[] RULE_MOST = {7, 99, 99, 999};
    private static final int[] RULE_UNTOLD = {3, 0, 0, 0};

    private final Tape tape = new Tape();
    private final Reader reader = new Reader(tape);
    private Mooring mooring = new Mooring();
    private Mooring spare = new Mooring();
    private final Script[] scripts = new Script[MOST_SCRIPTS + 1];
    private int scriptCount = 0;
    private final Hold now = new Hold();
    private final Hold work = new Hold();
    private final Crew crew = new Crew();
    private final Fraction fraction = new Fraction();
    private final Fraction best = new Fraction();
    private final Journal journal = new Journal();
    private final Past past = new Past();
    private final Refusals refusals = new Refusals();
    private final Hold kept = new Hold();
    private final int[] keptLines = new int[LOG_LINES];
    private boolean hasImage = false;
    private long drawn = 0;

    public MooringDesk() {
        // One script more than can be kept: a tape is read into it when all four are there.
        for (int i = 0; i < scripts.length; i++) {
            scripts[i] = new Script();
        }
    }

    // ---- texts ----

    public int feed(int a, int b, int c, int d, int e) {
        int more = Tape.bytesIn(a) + Tape.bytesIn(b) + Tape.bytesIn(c) + Tape.bytesIn(d) + Tape.bytesIn(e);
        if (tape.length + more > TAPE_BYTES) {
            return NONE;
        }
        tape.append(a);
        tape.append(b);
        tape.append(c);
        tape.append(d);
        tape.append(e);
        return tape.length;
    }

    public boolean end(int n) {
        if (n < 0 || n > tape.length) {
            return false;
        }
        tape.length = n;
        return true;
    }

    public int fault(int sort) {
        if (sort == 0) {
            return reader.readMooring(spare);
        }
        if (sort == 1) {
            return reader.readScript(scripts[scriptCount]);
        }
        return NO_SORT;
    }

    public int text(int sort) {
        if (sort == 0) {
            return tellMooring();
        }
        if (sort == 1) {
            return tellScript();
        }
        return NONE;
    }

    private int tellMooring() {
        if (reader.readMooring(spare) != NONE) {
            return NONE;
        }
        tape.length = 0;
        work.begin(spare);
        if (crew.settle(spare, work) != SETTLED) {
            return CANNOT_SETTLE;
        }
        Mooring former = mooring;
        mooring = spare;
        spare = former;
        now.copy(work);
        past.clear();
        hasImage = false;
        return mooring.ropes;
    }

    private int tellScript() {
        if (scriptCount >= MOST_SCRIPTS || reader.readScript(scripts[scriptCount]) != NONE) {
            return NONE;
        }
        tape.length = 0;
        scriptCount++;
        return scriptCount - 1;
    }

    // ---- how it stands ----

    private boolean hasMooring() {
        return mooring.ropes > 0;
    }

    private boolean isRope(int rope) {
        return rope >= 0 && rope < mooring.ropes;
    }

    private boolean isFast(int rope) {
        return isRope(rope) && now.isFast(rope);
    }

    private boolean isTaut(int rope) {
        return isRope(rope) && now.stateOf(rope) == TAUT;
    }

    private static boolean isAxis(int axis) {
        return axis >= 0 && axis < AXES;
    }

    private static boolean isWithin(int value, int least, int most) {
        return value >= least && value <= most;
    }

    private Balance solved() {
        crew.balance.solve(mooring, now, now.taut);
        return crew.balance;
    }

    public int rule(int what) {
        if (!hasMooring() || !isWithin(what, 0, 4)) {
            return HIDDEN;
        }
        if (what == 0) {
            return mooring.rules[FREE];
        }
        return what == 4 ? now.tries : now.wind[what - 1];
    }

    public int rope(int rope, int what) throws NoSuchElementException {
        if (!isRope(rope) || !isWithin(what, 0, 8)) {
            throw new NoSuchElementException();
        }
        switch (what) {
            case 5:
                return mooring.ways[AXES * rope + 2];
            case 6:
                return mooring.strength[rope];
            case 7:
                return now.laid[rope];
            case 8:
                return now.stateOf(rope);
            default:
                return mooring.itemOf(rope, what);
        }
    }

    public long pull(int rope, int what) {
        if (!isFast(rope) || !isWithin(what, 0, 1)) {
            return HIDDEN;
        }
        Balance balance = solved();
        fraction.put(balance.pulls[rope], balance.lower);
        return fraction.told(what);
    }

    public long shift(int axis, int what) {
        if (!hasMooring() || !isAxis(axis) || !isWithin(what, 0, 1)) {
            return HIDDEN;
        }
        Balance balance = solved();
        fraction.put(balance.shifted[axis], balance.lower);
        return fraction.told(what);
    }

    public long held(int axis, int what) {
        if (!hasMooring() || !isAxis(axis) || !isWithin(what, 0, 1)) {
            return HIDDEN;
        }
        if (mooring.isFree[axis]) {
            fraction.put(0, 1);
        } else {
            Balance balance = solved();
            fraction.put(balance.restOn(mooring, now, axis), balance.lower);
        }
        return fraction.told(what);
    }

    public long load(int rope, int what) {
        if (!isTaut(rope) || !isWithin(what, 0, 1)) {
            return HIDDEN;
        }
        putLoad(solved(), rope);
        return fraction.told(what);
    }

    private void putLoad(Balance balance, int rope) {
        fraction.put(balance.pulls[rope], mooring.strength[rope] * balance.lower);
    }

    public int worst() {
        if (!hasMooring()) {
            return NONE;
        }
        return solved().mostLoaded(mooring, now.taut, 1);
    }

    public long uneven(int what) {
        if (!hasMooring() || !isWithin(what, 0, 1)) {
            return HIDDEN;
        }
        putUneven(solved());
        return fraction.told(what);
    }

    private void putUneven(Balance balance) {
        int most = balance.mostLoaded(mooring, now.taut, 1);
        int least = balance.mostLoaded(mooring, now.taut, -1);
        if (most == NONE || least == NONE) {
            fraction.put(0, 1);
            return;
        }
        long strengthOfMost = mooring.strength[most];
        long strengthOfLeast = mooring.strength[least];
        fraction.put(balance.pulls[most] * strengthOfLeast - balance.pulls[least] * strengthOfMost,
                strengthOfMost * strengthOfLeast * balance.lower);
    }

    public int accord(int one, int other) {
        if (!isRope(one) || !isRope(other)) {
            return HIDDEN;
        }
        return mooring.accordOf(one, other);
    }

    public int shares(int rope, int c) {
        int all = mooring.stiffnessOf(now.taut);
        if (!isTaut(rope) || !isWithin(c, 0, 999) || all <= 0) {
            return NONE;
        }
        return c * mooring.stiffness[rope] / all;
    }

    public int most(int what) {
        if (!hasMooring()) {
            return HIDDEN;
        }
        switch (what) {
            case 0:
                return now.taut;
            case 1:
                return now.slackOf(mooring);
            case 2:
                return now.broken;
            case 3:
                return now.cast;
            case 4:
                return solved().mostPulled(now.taut, 1);
            case 5:
                return solved().mostPulled(now.taut, -1);
            case 6:
                return mooring.stiffnessOf(now.taut);
            case 7:
                return now.everBroke;
            case 8:
                return leastAccord();
            default:
                return HIDDEN;
        }
    }

    private int leastAccord() {
        int found = NONE;
        int least = 0;
        for (int one = 0; one < mooring.ropes; one++) {
            for (int other = one + 1; other < mooring.ropes; other++) {
                if (!isTaut(one) || !isTaut(other)) {
                    continue;
                }
                int accord = mooring.accordOf(one, other);
                if (found == NONE || accord < least) {
                    found = MOST_ROPES * one + other;
                    least = accord;
                }
            }
        }
        return found;
    }

    public int count(int what) {
        switch (what) {
            case 0:
                return mooring.ropes;
            case 1:
                return scriptCount;
            case 2:
                return tape.length;
            case 3:
                return Math.min(now.lines, LOG_LINES);
            case 4:
                return past.size;
            default:
                return HIDDEN;
        }
    }

    // ---- acts ----

    public int wind(int along, int across, int round) {
        return actByHand(WIND, along, across, round);
    }

    public int winch(int rope, int n) {
        return actByHand(WINCH, rope, n, 0);
    }

    public int cast(int rope) {
        return actByHand(CAST_OFF, rope, 0, 0);
    }

    public int renew(int rope) {
        return actByHand(RENEW, rope, 0, 0);
    }

    private int actByHand(int sort, int one, int two, int three) {
        int reason = tryAct(sort, one, two, three);
        if (reason != SETTLED) {
            refusals.begin();
            refuse(sort, reason);
            return NONE;
        }
        return crew.broke;
    }

    private int tryAct(int sort, int one, int two, int three) {
        work.copy(now);
        int reason = crew.attempt(mooring, work, sort, one, two, three);
        if (reason == SETTLED) {
            writeLine(sort, one);
            past.push(now);
            now.copy(work);
        }
        return reason;
    }

    private void writeLine(int sort, int one) {
        journal.write(work.lines, sort, sort == WIND ? NONE : one, crew.broke);
        work.lines++;
    }

    private void refuse(int sort, int reason) {
        refusals.add(100 + sort);
        if (reason == ADRIFT || reason == ROUND_FOR_EVER) {
            refusals.add(200 + crew.brokenCount);
        }
        refusals.close(reason);
    }

    public int status(int what) {
        return isWithin(what, NO_SUCH, ROUND_FOR_EVER) ? refusals.counts[what] : NONE;
    }

    public int cause(int i) {
        return refusals.causeAt(i);
    }

    public int undo() {
        return past.pop(now) ? past.size : NONE;
    }

    public int log(int i, int what) {
        if (i < 0 || i >= Math.min(now.lines, LOG_LINES) || !isWithin(what, 0, 2)) {
            return HIDDEN;
        }
        return journal.read(now.lines - 1 - i, what);
    }

    // ---- scripts ----

    private boolean isScript(int script) {
        return script >= 0 && script < scriptCount;
    }

    public int step(int script, int i, int what) {
        if (!isScript(script) || i < 0 || i >= scripts[script].steps || !isWithin(what, 0, 3)) {
            return HIDDEN;
        }
        return scripts[script].told(i, what);
    }

    private int attemptStep(Script script, int i) {
        return crew.attempt(mooring, work, script.cell(i, 0), script.cell(i, 1), script.cell(i, 2), script.cell(i, 3));
    }

    public int run(int script, int what) {
        if (!isScript(script) || !hasMooring() || !isWithin(what, 0, 1)) {
            return HIDDEN;
        }
        work.copy(now);
        int taut = now.taut;
        int behind = NONE;
        for (int i = 0; i < scripts[script].steps && behind == NONE; i++) {
            if (attemptStep(scripts[script], i) == SETTLED) {
                taut = work.taut;
            } else {
                behind = i;
            }
        }
        return what == 0 ? behind : Integer.bitCount(taut);
    }

    public int perform(int script) {
        if (!isScript(script) || !hasMooring()) {
            refusals.begin();
            refusals.close(NO_SUCH);
            return NONE;
        }
        work.copy(now);
        Script told = scripts[script];
        for (int i = 0; i < told.steps; i++) {
            int reason = attemptStep(told, i);
            if (reason != SETTLED) {
                refusals.begin();
                refusals.add(1000 + i);
                refuse(told.cell(i, 0), reason);
                return NONE;
            }
            writeLine(told.cell(i, 0), told.cell(i, 1));
        }
        past.push(now);
        now.copy(work);
        return told.steps;
    }

    // ---- what would be, apart from how it stands ----

    private boolean isGust(int along, int across, int round) {
        return hasMooring() && Crew.isGustWithin(along, across, round) && (along != 0 || across != 0 || round != 0);
    }

    /** How many times the gust comes, up to a limit, without a break; the crew then knows of the one behind them. */
    private int timesStood(int along, int across, int round, int limit) {
        work.copy(now);
        for (int times = 0; times < limit; times++) {
            if (crew.attempt(mooring, work, WIND, along, across, round) != SETTLED || crew.broke != 0) {
                return times;
            }
        }
        return limit;
    }

    public int stand(int along, int across, int round, int what) {
        if (!isGust(along, across, round) || !isWithin(what, 0, 1)) {
            return HIDDEN;
        }
        int times = timesStood(along, across, round, REPEATS);
        return what == 0 ? times : crew.firstBroken();
    }

    public int fall(int along, int across, int round, int i, int what) {
        if (!isGust(along, across, round) || i < 0 || !isWithin(what, 0, 1)) {
            return HIDDEN;
        }
        work.copy(now);
        int left = i;
        for (int times = 1; times <= REPEATS; times++) {
            if (crew.attempt(mooring, work, WIND, along, across, round) != SETTLED) {
                return HIDDEN;
            }
            if (left < crew.brokenCount) {
                return what == 0 ? crew.order[left] : times;
            }
            left -= crew.brokenCount;
        }
        return HIDDEN;
    }

    public int ease(int rope) {
        if (!isFast(rope)) {
            return NONE;
        }
        work.copy(now);
        for (int turns = 0; turns <= REPEATS; turns++) {
            if (work.stateOf(rope) == SLACK) {
                return turns;
            }
            if (crew.attempt(mooring, work, WINCH, rope, -1, 0) != SETTLED || crew.broke != 0) {
                return NONE;
            }
        }
        return NONE;
    }

    public int range(int axis, boolean isUp) {
        if (!hasMooring() || !isAxis(axis)) {
            return NONE;
        }
        int one = isUp ? 1 : -1;
        work.copy(now);
        for (int times = 0; times < REPEATS; times++) {
            int reason = crew.attempt(mooring, work, WIND, axis == 0 ? one : 0, axis == 1 ? one : 0,
                    axis == 2 ? one : 0);
            if (reason != SETTLED || crew.broke != 0 || work.taut != now.taut) {
                return times;
            }
        }
        return REPEATS;
    }

    public long trim(int n, int what) {
        if (!hasMooring() || !isWithin(n, 1, 3) || !isWithin(what, 0, 3)) {
            return HIDDEN;
        }
        int bestRope = NONE;
        int bestTurn = 0;
        best.put(0, 1);
        for (int rope = 0; rope < mooring.ropes; rope++) {
            for (int turn = -n; turn <= n; turn++) {
                if (turn != 0 && isFast(rope) && putTurned(rope, turn)
                        && (bestRope == NONE || fraction.isBelow(best))) {
                    bestRope = rope;
                    bestTurn = turn;
                    best.put(fraction.upper, fraction.lower);
                }
            }
        }
        if (what == 0) {
            return bestRope;
        }
        return what == 1 ? bestTurn : best.told(what - 2);
    }

    /** Puts the greatest load behind a turn; false if the turn can't be, or breaks a rope. */
    private boolean putTurned(int rope, int turn) {
        work.copy(now);
        if (crew.attempt(mooring, work, WINCH, rope, turn, 0) != SETTLED || crew.broke != 0) {
            return false;
        }
        int worst = crew.balance.mostLoaded(mooring, work.taut, 1);
        if (worst == NONE) {
            return false;
        }
        putLoad(crew.balance, worst);
        return true;
    }

    public int fewest(int what) {
        if (!hasMooring() || !isWithin(what, 0, 1)) {
            return NONE;
        }
        int fast = now.taut | now.slackOf(mooring);
        for (int size = 1; size <= mooring.ropes; size++) {
            for (int set = 1; set <= fast; set++) {
                if (Integer.bitCount(set) == size && (set & ~fast) == 0 && isEnough(set, fast)) {
                    return what == 0 ? size : set;
                }
            }
        }
        return NONE;
    }

    private boolean isEnough(int set, int fast) {
        work.copy(now);
        work.taut = set;
        work.cast |= fast & ~set;
        return crew.settle(mooring, work) == SETTLED && crew.broke == 0;
    }

    private boolean settlesWithout(int rope) {
        work.copy(now);
        return crew.attempt(mooring, work, CAST_OFF, rope, 0, 0) == SETTLED;
    }

    public int without(int rope, int what) {
        if (!isFast(rope) || !isWithin(what, 0, 1) || !settlesWithout(rope)) {
            return NONE;
        }
        return what == 0 ? work.taut : crew.broke;
    }

    public int key() {
        int found = NONE;
        int mostBroken = NONE;
        for (int rope = 0; rope < mooring.ropes; rope++) {
            if (!isFast(rope)) {
                continue;
            }
            int broken = settlesWithout(rope) ? crew.brokenCount : MOST_ROPES + 1;
            if (broken > mostBroken) {
                found = rope;
                mostBroken = broken;
            }
        }
        return found;
    }

    public int odds(int chance, int along, int across, int round, int n) {
        if (!isGust(along, across, round) || !isWithin(chance, 0, 100) || !isWithin(n, 1, 6)) {
            return NONE;
        }
        int stood = timesStood(along, across, round, n);
        long sum = 0;
        for (int comes = 0; comes < 1 << n; comes++) {
            if (Integer.bitCount(comes) <= stood) {
                sum += partsOf(chance, comes, n);
            }
        }
        return (int) sum;
    }

    /** The parts that go one way: each bit tells whether the gust comes that time. */
    private static long partsOf(int chance, int comes, int n) {
        long parts = ALL_PARTS;
        for (int i = 0; i < n; i++) {
            long coming = parts * chance / 100;
            parts = (comes >> i & 1) != 0 ? coming : parts - coming;
        }
        return parts;
    }

    // ---- draws ----

    public int years(int n, long seed) {
        if (!hasMooring() || !isWithin(n, 1, MOST_YEARS)) {
            return NONE;
        }
        drawn = seed;
        for (int i = 0; i < n; i++) {
            drawAct();
        }
        return now.taut;
    }

    private void drawAct() {
        int sort = draw(8);
        if (sort <= 4) {
            int along = draw(21) - 10;
            int across = draw(21) - 10;
            int round = draw(61) - 30;
            tryAct(WIND, along, across, round);
            return;
        }
        int rope = draw(mooring.ropes);
        if (sort <= 6) {
            tryAct(WINCH, rope, draw(7) - 3, 0);
        } else {
            tryAct(isFast(rope) ? CAST_OFF : RENEW, rope, 0, 0);
        }
    }

    private int draw(int bound) {
        drawn = drawn * 6364136223846793005L + 1442695040888963407L;
        return bound > 0 ? (int) ((drawn >>> 33) % bound) : 0;
    }

    // ---- images ----

    public int image() {
        if (!hasMooring()) {
            return NONE;
        }
        int lines = Math.min(now.lines, LOG_LINES);
        for (int i = 0; i < lines; i++) {
            keptLines[i] = journal.lineAt(now.lines - lines + i);
        }
        kept.copy(now);
        kept.lines = lines;
        hasImage = true;
        return kept.taut;
    }

    public int back() {
        if (!hasImage) {
            return NONE;
        }
        now.copy(kept);
        for (int i = 0; i < kept.lines && i < LOG_LINES; i++) {
            journal.putLine(i, keptLines[i]);
        }
        past.clear();
        return now.taut;
    }

    // ---- the classes inside ----

    /** The bytes that came. */
    private static final class Tape {
        final byte[] bytes = new byte[TAPE_BYTES];
        // At most as many as there are bytes above.
        int length = 0;

        static int bytesIn(int number) {
            int sum = 0;
            for (int shift = 24; shift >= 0; shift -= 8) {
                if ((number >>> shift & 255) != 0) {
                    sum++;
                }
            }
            return sum;
        }

        void append(int number) {
            for (int shift = 24; shift >= 0; shift -= 8) {
                int value = number >>> shift & 255;
                if (value != 0 && length < TAPE_BYTES) {
                    bytes[length] = (byte) value;
                    length++;
                }
            }
        }
    }

    /** Reads a tape; where reading fails, at is left on the fault. */
    private static final class Reader {
        private final Tape tape;
        private int at = 0;
        private int number = 0;
        private boolean hasRules = false;

        Reader(Tape tape) {
            this.tape = tape;
        }

        /** The byte that is next, or NONE at the end. */
        private int sign() {
            return at >= 0 && at < tape.length ? tape.bytes[at] & 255 : NONE;
        }

        private void skipBlanks() {
            while (at >= 0 && at < tape.length && tape.bytes[at] == ' ') {
                at++;
            }
        }

        private boolean readSign(int wanted) {
            skipBlanks();
            if (sign() != wanted) {
                return false;
            }
            at++;
            return true;
        }

        private boolean readDigit() {
            skipBlanks();
            int sign = sign();
            if (sign < '0' || sign > '9') {
                return false;
            }
            number = sign - '0';
            at++;
            return true;
        }

        private boolean readNumber(int least, int most) {
            skipBlanks();
            int sign = sign();
            boolean isBelow = sign == '-';
            if (isBelow) {
                at++;
                sign = sign();
            }
            int value = 0;
            int digits = 0;
            while (digits < 3 && sign >= '0' && sign <= '9') {
                value = 10 * value + sign - '0';
                digits++;
                at++;
                sign = sign();
            }
            if (digits == 0 || sign >= '0' && sign <= '9') {
                return false;
            }
            number = isBelow ? -value : value;
            if (number < least || number > most) {
                at--;
                return false;
            }
            return true;
        }

        /** The fault, or NONE; the mooring is whole only without a fault. */
        int readMooring(Mooring mooring) {
            at = 0;
            hasRules = false;
            mooring.clear();
            for (int clauses = 0; clauses < TAPE_BYTES; clauses++) {
                if (!readClause(mooring)) {
                    return at;
                }
                skipBlanks();
                if (sign() == NONE) {
                    return finish(mooring);
                }
                at++;
            }
            return at;
        }

        private int finish(Mooring mooring) {
            if (!mooring.isWhole()) {
                return at;
            }
            mooring.measure();
            return NONE;
        }

        private boolean readClause(Mooring mooring) {
            skipBlanks();
            int letter = sign();
            if (letter == 's' && !hasRules) {
                at++;
                hasRules = true;
                return readItems(RULE_LETTERS, RULE_LEAST, RULE_MOST, mooring.rules, 0);
            }
            if (letter == 'r' && mooring.ropes < MOST_ROPES) {
                at++;
                int first = mooring.addRope();
                return readItems(ROPE_LETTERS, ROPE_LEAST, ROPE_MOST, mooring.items, first);
            }
            return false;
        }

        /** True at the clause's end: a ; or the tape's end comes next. */
        private boolean readItems(char[] letters, int[] least, int[] most, int[] items, int first) {
            int seen = 0;
            for (int i = 0; i <= letters.length; i++) {
                skipBlanks();
                int letter = sign();
                if (letter == NONE || letter == ';') {
                    return true;
                }
                int item = indexIn(letters, letter);
                if (item == NONE || (seen >> item & 1) != 0) {
                    return false;
                }
                at++;
                if (!readNumber(least[item], most[item])) {
                    return false;
                }
                seen |= 1 << item;
                items[first + item] = number;
            }
            return false;
        }

        private static int indexIn(char[] letters, int letter) {
            for (int i = 0; i < letters.length; i++) {
                if (letters[i] == letter) {
                    return i;
                }
            }
            return NONE;
        }

        /** The fault, or NONE; the script is whole only without a fault. */
        int readScript(Script script) {
            at = 0;
            script.steps = 0;
            for (int i = 0; i < MOST_STEPS; i++) {
                if (!readStep(script, i)) {
                    return at;
                }
                script.steps = i + 1;
                skipBlanks();
                if (sign() == NONE) {
                    return NONE;
                }
                if (sign() != ';' || i == MOST_STEPS - 1) {
                    return at;
                }
                at++;
            }
            return at;
        }

        private boolean readStep(Script script, int i) {
            skipBlanks();
            int letter = sign();
            if (letter != 'w' && letter != 'h' && letter != 'c' && letter != 'n') {
                return false;
            }
            at++;
            if (letter == 'w') {
                script.put(i, 0, WIND);
                return readGust(script, i);
            }
            script.put(i, 0, letter == 'h' ? WINCH : letter == 'c' ? CAST_OFF : RENEW);
            if (!readDigit()) {
                return false;
            }
            script.put(i, 1, number);
            if (letter != 'h') {
                return true;
            }
            if (!readSign(':') || !readNumber(-TURN_MOST, TURN_MOST)) {
                return false;
            }
            script.put(i, 2, number);
            return true;
        }

        private boolean readGust(Script script, int i) {
            for (int axis = 0; axis < AXES; axis++) {
                if (axis > 0 && !readSign(',')) {
                    return false;
                }
                if (!readNumber(-GUST_MOST[axis], GUST_MOST[axis])) {
                    return false;
                }
                script.put(i, axis + 1, number);
            }
            return true;
        }
    }

    /** Steps, each of four cells: its sort and up to three numbers. */
    private static final class Script {
        private static final int CELLS = 4;
        private final int[] cells = new int[MOST_STEPS * CELLS];
        int steps = 0;

        void put(int i, int what, int value) {
            cells[CELLS * i + what] = value;
        }

        int cell(int i, int what) {
            return cells[CELLS * i + what];
        }

        int told(int i, int what) {
            int sort = cell(i, 0);
            int numbers = sort == WIND ? 3 : sort == WINCH ? 2 : 1;
            return what <= numbers ? cell(i, what) : HIDDEN;
        }
    }

    /** Rules and ropes as they were told. */
    private static final class Mooring {
        final int[] rules = new int[RULES];
        final int[] items = new int[MOST_ROPES * ITEMS];
        // Rows of their own, made when the text is whole: what settling asks for again and again.
        final int[] ways = new int[MOST_ROPES * AXES];
        final int[] stiffness = new int[MOST_ROPES];
        final int[] strength = new int[MOST_ROPES];
        final boolean[] isFree = new boolean[AXES];
        int ropes = 0;

        void clear() {
            ropes = 0;
            System.arraycopy(RULE_UNTOLD, 0, rules, 0, RULES);
        }

        /** Where the new rope's items begin; the caller looks first that there is room. */
        int addRope() {
            int first = ropes * ITEMS;
            System.arraycopy(ROPE_UNTOLD, 0, items, first, ITEMS);
            ropes++;
            return first;
        }

        /** False without a rope, or with a rope that goes nowhere. */
        boolean isWhole() {
            for (int rope = 0; rope < ropes; rope++) {
                if (itemOf(rope, GOES_ALONG) == 0 && itemOf(rope, GOES_ACROSS) == 0) {
                    return false;
                }
            }
            return ropes > 0;
        }

        void measure() {
            for (int axis = 0; axis < AXES; axis++) {
                isFree[axis] = (rules[FREE] >> axis & 1) != 0;
            }
            for (int rope = 0; rope < ropes; rope++) {
                int along = itemOf(rope, GOES_ALONG);
                int across = itemOf(rope, GOES_ACROSS);
                ways[AXES * rope] = along;
                ways[AXES * rope + 1] = across;
                ways[AXES * rope + 2] = itemOf(rope, SHIP_X) * across - itemOf(rope, SHIP_Y) * along;
                stiffness[rope] = itemOf(rope, STIFFNESS);
                strength[rope] = itemOf(rope, STRENGTH);
            }
        }

        int itemOf(int rope, int item) {
            return items[ITEMS * rope + item];
        }

        int accordOf(int one, int other) {
            int sum = 0;
            for (int axis = 0; axis < AXES; axis++) {
                if (isFree[axis]) {
                    sum += ways[AXES * one + axis] * ways[AXES * other + axis];
                }
            }
            return sum;
        }

        int stiffnessOf(int set) {
            int sum = 0;
            for (int rope = 0; rope < ropes; rope++) {
                if ((set >> rope & 1) != 0) {
                    sum += stiffness[rope];
                }
            }
            return sum;
        }
    }

    /** How a mooring stands: sets of ropes are bits. */
    private static final class Hold {
        final int[] laid = new int[MOST_ROPES];
        final int[] wind = new int[AXES];
        int taut = 0;
        int broken = 0;
        int cast = 0;
        int tries = 0;
        int everBroke = 0;
        int lines = 0;

        void copy(Hold other) {
            System.arraycopy(other.laid, 0, laid, 0, MOST_ROPES);
            System.arraycopy(other.wind, 0, wind, 0, AXES);
            taut = other.taut;
            broken = other.broken;
            cast = other.cast;
            tries = other.tries;
            everBroke = other.everBroke;
            lines = other.lines;
        }

        void begin(Mooring mooring) {
            for (int rope = 0; rope < mooring.ropes; rope++) {
                laid[rope] = mooring.itemOf(rope, LAID);
            }
            System.arraycopy(mooring.rules, 1, wind, 0, AXES);
            taut = (1 << mooring.ropes) - 1;
            broken = 0;
            cast = 0;
            everBroke = 0;
            lines = 0;
        }

        boolean isFast(int rope) {
            return ((broken | cast) >> rope & 1) == 0;
        }

        int stateOf(int rope) {
            if ((taut >> rope & 1) != 0) {
                return TAUT;
            }
            if (isFast(rope)) {
                return SLACK;
            }
            return (broken >> rope & 1) != 0 ? BROKEN : CAST;
        }

        int slackOf(Mooring mooring) {
            return (1 << mooring.ropes) - 1 & ~(taut | broken | cast);
        }
    }

    /** The shift by which a set of ropes balances the wind, and all pulls by it, over one lower number. */
    private static final class Balance {
        private final long[] matrix = new long[AXES * AXES];
        private final long[] forces = new long[AXES];
        final long[] shifted = new long[AXES];
        final long[] pulls = new long[MOST_ROPES];
        long lower = 0;

        /** False: no shift balances, or many do. */
        boolean solve(Mooring mooring, Hold hold, int set) {
            begin(mooring, hold);
            for (int rope = 0; rope < mooring.ropes; rope++) {
                if ((set >> rope & 1) != 0) {
                    addRope(mooring, hold, rope);
                }
            }
            lower = matrix[0] * cofactor(0, 0) + matrix[1] * cofactor(0, 1) + matrix[2] * cofactor(0, 2);
            if (lower <= 0) {
                return false;
            }
            for (int i = 0; i < AXES; i++) {
                shifted[i] = 0;
                for (int j = 0; j < AXES; j++) {
                    shifted[i] += cofactor(i, j) * forces[j];
                }
            }
            putPulls(mooring, hold);
            return true;
        }

        private void begin(Mooring mooring, Hold hold) {
            for (int i = 0; i < AXES; i++) {
                for (int j = 0; j < AXES; j++) {
                    // An axis that is not free gets the row "its shift is 0", so that one formula serves all.
                    matrix[AXES * i + j] = i == j && !mooring.isFree[i] ? 1 : 0;
                }
                forces[i] = mooring.isFree[i] ? hold.wind[i] : 0;
            }
        }

        private void addRope(Mooring mooring, Hold hold, int rope) {
            for (int i = 0; i < AXES; i++) {
                if (!mooring.isFree[i]) {
                    continue;
                }
                int way = mooring.ways[AXES * rope + i];
                forces[i] += hold.laid[rope] * way;
                for (int j = 0; j < AXES; j++) {
                    if (mooring.isFree[j]) {
                        matrix[AXES * i + j] += mooring.stiffness[rope] * way * mooring.ways[AXES * rope + j];
                    }
                }
            }
        }

        private long cofactor(int i, int j) {
            int nextRow = AXES * ((i + 1) % AXES);
            int lastRow = AXES * ((i + 2) % AXES);
            int next = (j + 1) % AXES;
            int last = (j + 2) % AXES;
            return matrix[nextRow + next] * matrix[lastRow + last] - matrix[nextRow + last] * matrix[lastRow + next];
        }

        private void putPulls(Mooring mooring, Hold hold) {
            for (int rope = 0; rope < mooring.ropes; rope++) {
                long stretch = 0;
                for (int axis = 0; axis < AXES; axis++) {
                    stretch += mooring.ways[AXES * rope + axis] * shifted[axis];
                }
                pulls[rope] = hold.laid[rope] * lower - mooring.stiffness[rope] * stretch;
            }
        }

        /** The upper number of wind and taut ropes on an axis. */
        long restOn(Mooring mooring, Hold hold, int axis) {
            long sum = hold.wind[axis] * lower;
            for (int rope = 0; rope < mooring.ropes; rope++) {
                if ((hold.taut >> rope & 1) != 0) {
                    sum += pulls[rope] * mooring.ways[AXES * rope + axis];
                }
            }
            return sum;
        }

        /** The rope of a set with the greatest pull, with a sign of -1 that with the least; of several the lowest. */
        int mostPulled(int set, int sign) {
            int found = NONE;
            for (int rope = 0; rope < MOST_ROPES; rope++) {
                if ((set >> rope & 1) != 0 && (found == NONE || sign * pulls[rope] > sign * pulls[found])) {
                    found = rope;
                }
            }
            return found;
        }

        /** Likewise by load. A pull's upper number stays under 2 to the 50, so that times a strength it fits a long. */
        int mostLoaded(Mooring mooring, int set, int sign) {
            int found = NONE;
            for (int rope = 0; rope < MOST_ROPES; rope++) {
                if ((set >> rope & 1) != 0 && (found == NONE
                        || sign * pulls[rope] * mooring.strength[found]
                        > sign * pulls[found] * mooring.strength[rope])) {
                    found = rope;
                }
            }
            return found;
        }
    }

    /** Does an act on a hold and lets it settle; a hold whose act is refused is of no use any more. */
    private static final class Crew {
        // Far above what can be: 256 sets at most lie between two breaks, and eight ropes can break.
        private static final int MOST_TRIES = 4096;
        final Balance balance = new Balance();
        final int[] order = new int[MOST_ROPES];
        // A bit for each set of ropes that it went by since the last break.
        private final long[] wentBy = new long[4];
        int broke = 0;
        int brokenCount = 0;
        private int reason = SETTLED;

        static boolean isGustWithin(int along, int across, int round) {
            return isWithin(along, -GUST_MOST[0], GUST_MOST[0]) && isWithin(across, -GUST_MOST[1], GUST_MOST[1])
                    && isWithin(round, -GUST_MOST[2], GUST_MOST[2]);
        }

        /** The first rope that broke by the latest act, if that could be. */
        int firstBroken() {
            return reason == SETTLED && brokenCount > 0 ? order[0] : NONE;
        }

        int attempt(Mooring mooring, Hold hold, int sort, int one, int two, int three) {
            broke = 0;
            brokenCount = 0;
            if (sort == WIND) {
                reason = blow(mooring, hold, one, two, three);
            } else if (one < 0 || one >= mooring.ropes) {
                reason = NO_SUCH;
            } else if (sort == WINCH) {
                reason = turn(mooring, hold, one, two);
            } else {
                reason = sort == CAST_OFF ? castOff(hold, one) : takeAgain(mooring, hold, one);
            }
            if (reason == SETTLED) {
                reason = settle(mooring, hold);
            }
            return reason;
        }

        private static int blow(Mooring mooring, Hold hold, int along, int across, int round) {
            if (mooring.ropes == 0) {
                return NO_SUCH;
            }
            if (!isGustWithin(along, across, round)) {
                return BEYOND;
            }
            hold.wind[0] += along;
            hold.wind[1] += across;
            hold.wind[2] += round;
            for (int axis = 0; axis < AXES; axis++) {
                if (!isWithin(hold.wind[axis], -WIND_MOST[axis], WIND_MOST[axis])) {
                    return BEYOND;
                }
            }
            return along == 0 && across == 0 && round == 0 ? SO_ALREADY : SETTLED;
        }

        private static int turn(Mooring mooring, Hold hold, int rope, int n) {
            if (!isWithin(n, -TURN_MOST, TURN_MOST)) {
                return BEYOND;
            }
            hold.laid[rope] += n * mooring.stiffness[rope];
            if (!isWithin(hold.laid[rope], -LAID_MOST, LAID_MOST)) {
                return BEYOND;
            }
            return n == 0 || !hold.isFast(rope) ? SO_ALREADY : SETTLED;
        }

        private static int castOff(Hold hold, int rope) {
            if (!hold.isFast(rope)) {
                return SO_ALREADY;
            }
            hold.taut &= ~(1 << rope);
            hold.cast |= 1 << rope;
            return SETTLED;
        }

        private static int takeAgain(Mooring mooring, Hold hold, int rope) {
            if (hold.isFast(rope)) {
                return SO_ALREADY;
            }
            hold.broken &= ~(1 << rope);
            hold.cast &= ~(1 << rope);
            hold.taut |= 1 << rope;
            hold.laid[rope] = mooring.itemOf(rope, LAID);
            return SETTLED;
        }

        int settle(Mooring mooring, Hold hold) {
            broke = 0;
            brokenCount = 0;
            Arrays.fill(wentBy, 0);
            for (int tries = 1; tries <= MOST_TRIES; tries++) {
                if (!balance.solve(mooring, hold, hold.taut)) {
                    return ADRIFT;
                }
                wentBy[hold.taut >> 6 & 3] |= 1L << (hold.taut & 63);
                int next = nextSet(mooring, hold);
                if (next != hold.taut) {
                    if ((wentBy[next >> 6 & 3] >>> (next & 63) & 1) != 0) {
                        return ROUND_FOR_EVER;
                    }
                    hold.taut = next;
                } else if (!breakWorst(mooring, hold)) {
                    hold.tries = tries;
                    hold.everBroke += brokenCount;
                    return SETTLED;
                }
            }
            return ROUND_FOR_EVER;
        }

        /** The set without the rope that would push most, or else with the one that would pull most. */
        private int nextSet(Mooring mooring, Hold hold) {
            int leaver = balance.mostPulled(hold.taut, -1);
            if (leaver != NONE && balance.pulls[leaver] < 0) {
                return hold.taut & ~(1 << leaver);
            }
            int joiner = balance.mostPulled(hold.slackOf(mooring), 1);
            if (joiner != NONE && balance.pulls[joiner] > 0) {
                return hold.taut | 1 << joiner;
            }
            return hold.taut;
        }

        private boolean breakWorst(Mooring mooring, Hold hold) {
            int worst = balance.mostLoaded(mooring, hold.taut, 1);
            if (worst == NONE || brokenCount >= MOST_ROPES
                    || balance.pulls[worst] <= mooring.strength[worst] * balance.lower) {
                return false;
            }
            hold.taut &= ~(1 << worst);
            hold.broken |= 1 << worst;
            broke |= 1 << worst;
            order[brokenCount] = worst;
            brokenCount++;
            Arrays.fill(wentBy, 0);
            return true;
        }
    }

    /** A whole fraction without a common divisor; used again for each answer. */
    private static final class Fraction {
        // Far above what two longs can need by Euclid's way.
        private static final int MOST_DIVISIONS = 200;
        long upper = 0;
        long lower = 1;

        void put(long above, long below) {
            long divisor = commonDivisor(Math.abs(above), below);
            if (below <= 0 || divisor <= 0) {
                upper = 0;
                lower = 1;
                return;
            }
            upper = above / divisor;
            lower = below / divisor;
        }

        private static long commonDivisor(long one, long other) {
            long a = one;
            long b = other;
            for (int i = 0; i < MOST_DIVISIONS && b != 0; i++) {
                long rest = a % b;
                a = b;
                b = rest;
            }
            return a;
        }

        long told(int what) {
            return what == 0 ? upper : lower;
        }

        /** Of fractions not below 0, part by part of their chains: products would not fit a long. */
        boolean isBelow(Fraction other) {
            long a = upper;
            long b = lower;
            long c = other.upper;
            long d = other.lower;
            boolean isTurned = false;
            for (int i = 0; i < MOST_DIVISIONS && b > 0 && d > 0; i++) {
                if (a / b != c / d) {
                    return a / b < c / d != isTurned;
                }
                long rest = a % b;
                long otherRest = c % d;
                if (rest == 0 || otherRest == 0) {
                    return rest != otherRest && rest == 0 != isTurned;
                }
                a = b;
                b = rest;
                c = d;
                d = otherRest;
                isTurned = !isTurned;
            }
            return false;
        }
    }

    /** The log's lines by number; far enough back that what an undo brings to light is still there. */
    private static final class Journal {
        private static final int KEPT = LOG_LINES + (UNDOABLE + 1) * MOST_STEPS;
        private final int[] lines = new int[KEPT];

        void write(int line, int sort, int rope, int broke) {
            putLine(line, sort | (rope + 1) << 2 | broke << 6);
        }

        void putLine(int line, int packed) {
            if (line >= 0) {
                lines[line % KEPT] = packed;
            }
        }

        int lineAt(int line) {
            return line >= 0 ? lines[line % KEPT] : 0;
        }

        int read(int line, int what) {
            int packed = lineAt(line);
            if (what == 0) {
                return packed & 3;
            }
            return what == 1 ? (packed >> 2 & 15) - 1 : packed >> 6;
        }
    }

    /** How it stood ahead of the latest acts. */
    private static final class Past {
        private final Hold[] holds = new Hold[UNDOABLE];
        private int next = 0;
        int size = 0;

        Past() {
            for (int i = 0; i < holds.length; i++) {
                holds[i] = new Hold();
            }
        }

        void clear() {
            size = 0;
        }

        void push(Hold hold) {
            holds[next].copy(hold);
            next = (next + 1) % UNDOABLE;
            size = Math.min(size + 1, UNDOABLE);
        }

        boolean pop(Hold hold) {
            if (size == 0) {
                return false;
            }
            next = (next + UNDOABLE - 1) % UNDOABLE;
            size--;
            hold.copy(holds[next]);
            return true;
        }
    }

    /** The status of what was refused, and the causes of the latest. */
    private static final class Refusals {
        private static final int MOST_CAUSES = 4;
        final int[] counts = new int[ROUND_FOR_EVER + 1];
        private final int[] causes = new int[MOST_CAUSES];
        private int length = 0;

        void begin() {
            length = 0;
        }

        void add(int cause) {
            if (length < MOST_CAUSES) {
                causes[length] = cause;
                length++;
            }
        }

        void close(int reason) {
            add(reason);
            if (reason >= 0 && reason < counts.length) {
                counts[reason]++;
            }
        }

        int causeAt(int i) {
            return i >= 0 && i < length && i < MOST_CAUSES ? causes[i] : NONE;
        }
    }
}
