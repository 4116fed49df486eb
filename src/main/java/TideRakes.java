import java.util.Arrays;

/** A drawing raked into the sand between two tides; ../shared/DOC.md tells what each call promises. */
public final class TideRakes {
    public static final int NONE = -1;

    private static final int CANNOT = -2;
    private static final int OTHERS = -10000;

    private static final int TAPE = 2000;
    private static final int FED = 20;
    private static final int DAY = 600;
    private static final int PARTS = 8;
    private static final int WORKERS = 3;
    private static final int SETS = 256;
    private static final int SLOTS = 3;
    private static final int UNDOABLE = 40;
    private static final int REPLAYED = 30;
    private static final int TELLINGS = 20;
    private static final int SEEDS = 50;
    private static final int LATEST = 60;
    private static final int LARGEST = 16;
    private static final int QUARTERS = 4;
    private static final int LOTS = 100;
    private static final int LOT_SALT = 29;
    /** A minute behind every minute of the day, from which nothing comes in time. */
    private static final int NEVER = 10000;

    private final byte[] tape = new byte[TAPE];
    private int length;
    private int faultPlace = NONE;
    private final Reader reader = new Reader();
    private final Shore shore = new Shore();
    private final Stand stand = new Stand();
    private final Past past = new Past();
    private final Stand[] slots = new Stand[SLOTS];
    private final boolean[] held = new boolean[SLOTS];
    private final Planner planner = new Planner();
    private final Told told = new Told();
    /** For each SEED asked for: the PARTS that the dogs leave, and the SEED as a LOT begins with it. */
    private final int[] left = new int[SEEDS];
    private final int[] mixedSeeds = new int[SEEDS];
    private final int[] dogLimits = new int[DAY];

    public TideRakes() {
        for (int i = 0; i < SLOTS; i++) {
            slots[i] = new Stand();
        }
        shore.script.clear();
        beginDay();
    }

    public int feed(int a, int b, int c, int d, int e) {
        if (length + FED > TAPE) {
            return NONE;
        }
        putBytes(a);
        putBytes(b);
        putBytes(c);
        putBytes(d);
        putBytes(e);
        return length;
    }

    public int back(int n) {
        if (n < 0 || n > length) {
            return NONE;
        }
        length -= n;
        return length;
    }

    public int read() {
        int fault = reader.readText(tape, length);
        length = 0;
        faultPlace = fault == 0 ? NONE : reader.faultPlace;
        if (fault == 0) {
            Script old = shore.script;
            shore.script = reader.script;
            reader.script = old;
            beginDay();
        }
        return fault;
    }

    public int place() {
        return faultPlace;
    }

    public int part(int part, int what) {
        if (!isPart(part)) {
            return OTHERS;
        }
        switch (what) {
            case 0:
                return shore.sands[part].high;
            case 1:
                return stand.done[part];
            case 2:
                return stand.crossed[part] ? 1 : 0;
            case 3:
                return shore.script.worth[part];
            case 4:
                return shore.script.minutes[part];
            case 5:
                return stand.rakedBy[part];
            default:
                return OTHERS;
        }
    }

    public int worker(int worker, int what) {
        if (!isWorker(worker)) {
            return NONE;
        }
        Walker walker = stand.walkers[worker];
        switch (what) {
            case 0:
                return walker.x;
            case 1:
                return walker.y;
            case 2:
                return walker.ready;
            case 3:
                return walker.speed;
            case 4:
                return walker.raked;
            default:
                return NONE;
        }
    }

    public int minute(int minute, int what) {
        if (!isMinute(minute)) {
            return OTHERS;
        }
        if (what == 0) {
            return shore.tide[minute];
        }
        return what == 1 ? shore.sun[minute] : OTHERS;
    }

    public int free(int part, int minute) {
        return isPart(part) && isMinute(minute) ? shore.sands[part].freeFor(minute) : NONE;
    }

    public int when(int part, int minute) {
        return isPart(part) && isMinute(minute) ? shore.sands[part].startFrom(minute) : NONE;
    }

    public int send(int worker, int part) {
        if (!isWorker(worker) || !isPart(part)) {
            return NONE;
        }
        past.note(stand, worker, part);
        return keepIfDone(stand.rake(shore, worker, part));
    }

    public boolean cross(int part) {
        if (!isPart(part)) {
            return false;
        }
        past.note(stand, 0, part);
        return keepIfDone(stand.strike(part) ? 1 : CANNOT) == 1;
    }

    public int mend(int worker, int part) {
        if (!isWorker(worker) || !isPart(part)) {
            return NONE;
        }
        past.note(stand, worker, part);
        return keepIfDone(stand.repair(shore, worker, part));
    }

    public boolean undo() {
        boolean undone = past.takeBack(stand);
        if (undone) {
            planner.forgetRows();
        }
        return undone;
    }

    public int seen(int minute) {
        return isMinute(minute) ? stand.visible(shore, minute) : NONE;
    }

    public int photo(int minute) {
        return isMinute(minute) ? picture(minute) : NONE;
    }

    public int bestMinute() {
        int best = 0;
        int most = 0;
        for (int minute = 0; minute < DAY; minute++) {
            int worth = picture(minute);
            if (worth > most) {
                most = worth;
                best = minute;
            }
        }
        return best;
    }

    public int stays(int part, int minute) {
        if (!isPart(part) || !isMinute(minute)) {
            return NONE;
        }
        int end = minute;
        while (end < DAY && shore.sands[part].freeFor(end) > 0) {
            end++;
        }
        return end - minute;
    }

    public int plan(int worker, int b, int what) {
        if (!isWorker(worker) || !isBound(b)) {
            return NONE;
        }
        return answer(planner.rowsOf(shore, stand, worker), b, what);
    }

    public int planAt(int worker, int b, int i) {
        if (!isWorker(worker) || !isBound(b) || i < 0) {
            return NONE;
        }
        int size = planner.trace(shore, stand, worker, b);
        return i < size ? planner.row[i] : CANNOT;
    }

    public int two(int worker, int other, int b, int what) {
        if (!isWorker(worker) || !isWorker(other) || worker == other || !isBound(b)) {
            return NONE;
        }
        if (what < 0 || what > 2) {
            return NONE;
        }
        Rows first = planner.rowsOf(shore, stand, worker);
        Rows second = planner.rowsOf(shore, stand, other);
        int pair = planner.bestPair(shore, first, second, b);
        int mine = pair / SETS;
        int others = pair % SETS;
        if (what == 0) {
            return shore.worthOf[mine] + shore.worthOf[others];
        }
        return what == 1 ? mine : others;
    }

    public int hands(int b, int what) {
        if (!isBound(b) || what < 0 || what > 1) {
            return NONE;
        }
        int set = planner.sharedSet(shore, stand, b);
        return what == 0 ? shore.worthOf[set] : set;
    }

    public int spare(int worker, int b) {
        return isWorker(worker) && isBound(b) ? planner.slack(shore, stand, worker, b) : NONE;
    }

    public int quickest(int worker, int what) {
        if (!isWorker(worker) || what < 0 || what > 1) {
            return NONE;
        }
        int soonest = NEVER;
        int best = CANNOT;
        for (int part = 0; part < shore.script.parts; part++) {
            int done = stand.wouldBeDone(shore, worker, part);
            if (done >= 0 && done < soonest) {
                soonest = done;
                best = part;
            }
        }
        return what == 0 || best < 0 ? best : soonest;
    }

    public int mends(int worker, int b, int what) {
        if (!isWorker(worker) || !isBound(b)) {
            return NONE;
        }
        return answer(planner.mendingRows(shore, stand, worker), b, what);
    }

    public int after(int worker, int b, int minute) {
        if (!isWorker(worker) || !isBound(b) || !isMinute(minute)) {
            return NONE;
        }
        int set = stand.visible(shore, minute) | planner.visibleAfter(shore, stand, worker, b, minute);
        return shore.worthOf[set] * shore.sun[minute];
    }

    public int window(int part, int i, boolean last) {
        if (!isPart(part) || i < NONE) {
            return NONE;
        }
        Sand sand = shore.sands[part];
        int windows = 0;
        boolean within = false;
        for (int minute = 0; minute < DAY; minute++) {
            boolean holds = shore.holds(sand, minute);
            if (holds && !within) {
                if (windows == i) {
                    return last ? lastHolding(sand, minute) : minute;
                }
                windows++;
            }
            within = holds;
        }
        return i == NONE ? windows : NONE;
    }

    public int large(int b) {
        return isBound(b) ? planner.largest(shore, b) : NONE;
    }

    public int hopes(int minute, int v, int n) {
        if (!isMinute(minute) || v < 0 || n < 1 || n > SEEDS) {
            return NONE;
        }
        letDogsRun(minute, n);
        int many = 0;
        for (int i = 0; i < n; i++) {
            if (shore.worthOf[left[i]] * shore.sun[minute] >= v) {
                many++;
            }
        }
        return many;
    }

    public int hope(int minute, int n) {
        if (!isMinute(minute) || n < 1 || n > SEEDS) {
            return NONE;
        }
        letDogsRun(minute, n);
        int worth = 0;
        for (int i = 0; i < n; i++) {
            worth += shore.worthOf[left[i]];
        }
        return worth * shore.sun[minute];
    }

    public int dog(int part, int minute) {
        return isPart(part) && isMinute(minute) ? shore.dogTells(part, minute) : NONE;
    }

    public int error(int part, boolean from) {
        if (!isPart(part)) {
            return NONE;
        }
        return from ? shore.measuredFrom[part] : shore.errors[part];
    }

    public int fails(int limit) {
        if (limit < 0) {
            return NONE;
        }
        int set = 0;
        for (int part = 0; part < shore.script.parts; part++) {
            if (shore.errors[part] > limit) {
                set |= 1 << part;
            }
        }
        return set;
    }

    public int tell(int part, int minute, boolean there) {
        return isPart(part) && isMinute(minute) ? told.add(part, minute, there) : NONE;
    }

    public int forget() {
        int many = told.size;
        told.size = 0;
        return many;
    }

    public int late(int k, int i) {
        if (k < 0 || k > told.size || i < NONE) {
            return NONE;
        }
        return stand.acts > REPLAYED ? CANNOT : told.way(shore, stand, k, i);
    }

    public boolean hold(int slot) {
        if (!isSlot(slot)) {
            return false;
        }
        slots[slot].copy(stand);
        held[slot] = true;
        return true;
    }

    public boolean restore(int slot) {
        if (!isSlot(slot) || !held[slot]) {
            return false;
        }
        stand.copy(slots[slot]);
        past.size = 0;
        planner.forgetRows();
        return true;
    }

    public int count(int what) {
        switch (what) {
            case 0:
                return shore.script.parts;
            case 1:
                return shore.script.workers;
            case 2:
                return shore.script.holdsFrom;
            case 3:
                return shore.script.holdsTo;
            case 4:
                return PARTS - Integer.bitCount(stand.neverDone());
            case 5:
                return Integer.bitCount(stand.crossedSet());
            case 6:
                return stand.acts;
            case 7:
                return length;
            case 8:
                return past.size;
            case 9:
                return told.size;
            case 10:
                return heldSlots();
            default:
                return NONE;
        }
    }

    private void putBytes(int four) {
        for (int shift = 24; shift >= 0; shift -= 8) {
            if (length < TAPE) {
                tape[length] = (byte) (four >>> shift);
                length++;
            }
        }
    }

    private void beginDay() {
        shore.settle();
        stand.begin(shore.script);
        past.size = 0;
        told.size = 0;
        for (int i = 0; i < SLOTS; i++) {
            held[i] = false;
        }
        planner.forgetRows();
        planner.forgetSizes();
    }

    /** What an act answered; an act that happened can be undone and makes known rows stale. */
    private int keepIfDone(int answer) {
        if (answer >= 0) {
            past.keep();
            planner.forgetRows();
        }
        return answer;
    }

    private int picture(int minute) {
        return shore.worthOf[stand.visible(shore, minute)] * shore.sun[minute];
    }

    private void letDogsRun(int minute, int n) {
        int visible = stand.visible(shore, minute);
        for (int i = 0; i < n && i < SEEDS; i++) {
            left[i] = visible;
            mixedSeeds[i] = mixed(shore.script.seed + i, LOT_SALT);
        }
        for (int part = 0; part < shore.script.parts; part++) {
            if ((visible >> part & 1) != 0) {
                letDogsRunOver(part, minute, n);
            }
        }
    }

    private void letDogsRunOver(int part, int minute, int n) {
        int first = stand.visibleFrom(part);
        for (int u = first; u <= minute; u++) {
            dogLimits[u] = shore.dogTells(part, u);
        }
        for (int i = 0; i < n && i < SEEDS; i++) {
            if (isRunOver(mixedSeeds[i], part, first, minute)) {
                left[i] ^= 1 << part;
            }
        }
    }

    private boolean isRunOver(int mixedSeed, int part, int first, int last) {
        for (int u = first; u <= last; u++) {
            int limit = dogLimits[u];
            if (limit > 0 && (mixed(mixedSeed, 8 * u + part) >>> 1) % LOTS < limit) {
                return true;
            }
        }
        return false;
    }

    private static int mixed(int h, int with) {
        int next = (h ^ with) * 1103515245 + 12345;
        return next ^ next >>> 15;
    }

    private int answer(Rows rows, int b, int what) {
        int set = rows.bestSet(shore.worthOf, b);
        switch (what) {
            case 0:
                return shore.worthOf[set];
            case 1:
                return rows.soonest[set];
            case 2:
                return set;
            default:
                return NONE;
        }
    }

    private int lastHolding(Sand sand, int first) {
        int minute = first;
        while (minute + 1 < DAY && shore.holds(sand, minute + 1)) {
            minute++;
        }
        return minute;
    }

    private int heldSlots() {
        int many = 0;
        for (int i = 0; i < SLOTS; i++) {
            if (held[i]) {
                many++;
            }
        }
        return many;
    }

    private boolean isPart(int part) {
        return part >= 0 && part < shore.script.parts;
    }

    private boolean isWorker(int worker) {
        return worker >= 0 && worker < shore.script.workers;
    }

    private static boolean isMinute(int minute) {
        return minute >= 0 && minute < DAY;
    }

    private static boolean isBound(int b) {
        return b >= 0 && b <= DAY;
    }

    private static boolean isSlot(int slot) {
        return slot >= 0 && slot < SLOTS;
    }

    private static int far(int x, int y, int otherX, int otherY) {
        return Math.abs(x - otherX) + Math.abs(y - otherY);
    }

    private static int roundedUp(int whole, int by) {
        return by > 0 ? (whole + by - 1) / by : whole;
    }

    /** Reads a text into a script; the script counts only if there was no FAULT. */
    private static final class Reader {
        static final int SYNTAX = 1;
        static final int ROOM = 2;
        static final int TWICE = 3;
        static final int WRONG = 5;
        static final int MOST_TOKENS = 400;
        static final int MOST_IFS = 4;
        static final int DEEPEST = 6;
        static final int LONGEST_NAME = 8;
        static final int LONGEST_INT = 4;

        /** The kinds of TOKENS: a word's number in WORDS, a SIGN's byte (all are greater), or one of the last four here. */
        static final int PART = 0;
        static final int WORKER = 1;
        static final int HIGH = 2;
        static final int DOG = 6;
        static final int HOLDS = 7;
        static final int PEG = 8;
        static final int SEED = 9;
        static final int IF = 10;
        static final int THEN = 11;
        static final int ELSE = 12;
        static final int X = 13;
        static final int OFF = 17;
        static final int NAME = 18;
        static final int INT = 19;
        static final int END = 20;
        static final int NO_TOKEN = 21;
        static final String SIGNS = ";=+-*/<()";
        static final String WORDS = "part worker high tide sun slip dog holds peg seed if then else x y minute far off ";

        final long[] words = new long[NAME];
        /** One TOKEN more than there may be, and the end behind it. */
        final int[] kinds = new int[MOST_TOKENS + 2];
        final long[] values = new long[MOST_TOKENS + 2];
        final int[] places = new int[MOST_TOKENS + 2];
        final long[] names = new long[PARTS + WORKERS];
        Script script = new Script();
        int known;
        int at;
        int fault;
        int faultPlace;
        /** The first TWICE or WRONG: it counts only if no SYNTAX or ROOM stands anywhere in the text. */
        int milder;
        int milderPlace;

        Reader() {
            int word = 0;
            for (int i = 0; i < WORDS.length(); i++) {
                char c = WORDS.charAt(i);
                if (c == ' ') {
                    word++;
                } else if (word < NAME) {
                    words[word] = withLetter(words[word], c);
                }
            }
        }

        int readText(byte[] tape, int length) {
            split(tape, length);
            script.clear();
            known = 0;
            at = 0;
            fault = 0;
            milder = 0;
            for (int i = 0; i <= MOST_TOKENS && fault == 0 && kinds[at] != END; i++) {
                takeTell();
            }
            if (fault == 0 && milder != 0) {
                fault = milder;
                faultPlace = milderPlace;
            }
            return fault;
        }

        private void split(byte[] tape, int length) {
            int size = 0;
            int end = 0;
            for (int i = 0; i < length && size <= MOST_TOKENS; i = Math.max(i + 1, end)) {
                end = i + 1;
                if (isBlank(tape[i])) {
                    continue;
                }
                if (isLetter(tape[i])) {
                    end = takeLetters(tape, i, length, size);
                } else if (isDigit(tape[i])) {
                    end = takeDigits(tape, i, length, size);
                } else {
                    boolean sign = tape[i] > 0 && SIGNS.indexOf((char) tape[i]) >= 0;
                    kinds[size] = sign ? tape[i] : NO_TOKEN;
                }
                places[size] = i;
                size++;
            }
            kinds[size] = END;
            places[size] = length;
        }

        private int takeLetters(byte[] tape, int start, int length, int token) {
            int end = start;
            long name = 0;
            while (end < length && isLetter(tape[end])) {
                name = withLetter(name, tape[end]);
                end++;
            }
            values[token] = name;
            kinds[token] = end - start > LONGEST_NAME ? NO_TOKEN : kindOf(name);
            return end;
        }

        private int kindOf(long name) {
            for (int word = 0; word < NAME; word++) {
                if (words[word] == name) {
                    return word;
                }
            }
            return NAME;
        }

        private int takeDigits(byte[] tape, int start, int length, int token) {
            int end = start;
            int value = 0;
            while (end < length && isDigit(tape[end])) {
                value = value * 10 + tape[end] - '0';
                end++;
            }
            values[token] = value;
            kinds[token] = end - start > LONGEST_INT ? NO_TOKEN : INT;
            return end;
        }

        /** Eight letters of five bits each make a number of their own. */
        private static long withLetter(long packed, int letter) {
            return packed * 32 + (letter - 'a' + 1);
        }

        private static boolean isBlank(int c) {
            return c == 9 || c == 10 || c == 13 || c == 32;
        }

        private static boolean isLetter(int c) {
            return c >= 'a' && c <= 'z';
        }

        private static boolean isDigit(int c) {
            return c >= '0' && c <= '9';
        }

        private void takeTell() {
            int kind = kinds[at];
            if (kind == PART) {
                takePart();
            } else if (kind == WORKER) {
                takeWorker();
            } else if (kind >= HIGH && kind <= DOG) {
                takeLaw(kind);
            } else if (kind == HOLDS) {
                accept(kind);
                script.holdsFrom = takeNumber(1, DAY);
                script.holdsTo = takeNumber(1, DAY);
            } else if (kind == PEG) {
                accept(kind);
                script.pegX = takeNumber(0, 99);
                script.pegY = takeNumber(0, 99);
            } else if (kind == SEED) {
                accept(kind);
                script.seed = takeNumber(0, 9999);
            } else {
                fail(SYNTAX);
            }
            accept(';');
        }

        private void takePart() {
            int part = script.parts;
            if (part >= PARTS) {
                fail(ROOM);
                return;
            }
            accept(PART);
            takeName();
            script.partX[part] = takeNumber(0, 99);
            script.partY[part] = takeNumber(0, 99);
            script.worth[part] = takeNumber(0, 99);
            script.minutes[part] = takeNumber(1, 60);
            script.parts++;
        }

        private void takeWorker() {
            int worker = script.workers;
            if (worker >= WORKERS) {
                fail(ROOM);
                return;
            }
            accept(WORKER);
            takeName();
            script.workerX[worker] = takeNumber(0, 99);
            script.workerY[worker] = takeNumber(0, 99);
            script.speed[worker] = takeNumber(1, 20);
            script.workers++;
        }

        private void takeName() {
            long name = values[at];
            int place = places[at];
            if (!accept(NAME)) {
                return;
            }
            for (int i = 0; i < known; i++) {
                if (names[i] == name) {
                    failMildly(TWICE, place);
                }
            }
            if (known < names.length) {
                names[known] = name;
                known++;
            }
        }

        private int takeNumber(int least, int most) {
            int value = (int) values[at];
            int place = places[at];
            if (!accept(INT)) {
                return least;
            }
            if (value < least || value > most) {
                failMildly(WRONG, place);
            }
            return value;
        }

        private void takeLaw(int kind) {
            Laws laws = script.laws;
            accept(kind);
            accept('=');
            laws.begin(kind - HIGH);
            for (int ifs = 0; ifs <= MOST_IFS && fault == 0 && kinds[at] == IF; ifs++) {
                if (ifs == MOST_IFS) {
                    fail(ROOM);
                    return;
                }
                accept(IF);
                takeSum(0);
                accept('<');
                takeSum(0);
                accept(THEN);
                int jump = laws.emit(Laws.UNLESS_LESS, 0);
                takeSum(0);
                laws.emit(Laws.ANSWER, 0);
                accept(ELSE);
                laws.jumpHere(jump);
            }
            takeSum(0);
            laws.emit(Laws.ANSWER, 0);
        }

        private void takeSum(int depth) {
            takeProduct(depth);
            for (int i = 0; i <= MOST_TOKENS && fault == 0 && (kinds[at] == '+' || kinds[at] == '-'); i++) {
                int sign = kinds[at];
                accept(sign);
                takeProduct(depth);
                script.laws.emit(sign, 0);
            }
        }

        private void takeProduct(int depth) {
            takeUnit(depth);
            for (int i = 0; i <= MOST_TOKENS && fault == 0 && (kinds[at] == '*' || kinds[at] == '/'); i++) {
                int sign = kinds[at];
                accept(sign);
                takeUnit(depth);
                script.laws.emit(sign, 0);
            }
        }

        private void takeUnit(int depth) {
            int kind = kinds[at];
            if (kind == INT) {
                script.laws.emit(Laws.NUMBER, (int) values[at]);
                accept(kind);
            } else if (kind >= X && kind <= OFF) {
                script.laws.emit(Laws.VARIABLE, kind - X);
                accept(kind);
            } else if (kind != '(') {
                fail(SYNTAX);
            } else if (depth >= DEEPEST) {
                fail(ROOM);
            } else if (accept(kind)) {
                takeSum(depth + 1);
                accept(')');
            }
        }

        /** Goes over a TOKEN of that kind. A 401st one is ROOM only if it fits: of one place the least FAULT is told. */
        private boolean accept(int kind) {
            if (fault != 0) {
                return false;
            }
            if (kinds[at] == kind && at < MOST_TOKENS) {
                at++;
                return true;
            }
            fault = kinds[at] == kind ? ROOM : SYNTAX;
            faultPlace = places[at];
            return false;
        }

        private void fail(int number) {
            if (fault == 0) {
                fault = number;
                faultPlace = places[at];
            }
        }

        private void failMildly(int number, int place) {
            if (milder == 0) {
                milder = number;
                milderPlace = place;
            }
        }
    }

    /** What a text tells. */
    private static final class Script {
        final int[] partX = new int[PARTS];
        final int[] partY = new int[PARTS];
        final int[] worth = new int[PARTS];
        final int[] minutes = new int[PARTS];
        int parts;
        final int[] workerX = new int[WORKERS];
        final int[] workerY = new int[WORKERS];
        final int[] speed = new int[WORKERS];
        int workers;
        int holdsFrom;
        int holdsTo;
        int pegX;
        int pegY;
        int seed;
        final Laws laws = new Laws();

        void clear() {
            parts = 0;
            workers = 0;
            holdsFrom = 1;
            holdsTo = DAY;
            pegX = 0;
            pegY = 0;
            seed = 0;
            laws.clear();
        }

        int farFromPeg(int part) {
            return far(partX[part], partY[part], pegX, pegY);
        }

        int farBetween(int part, int other) {
            return far(partX[part], partY[part], partX[other], partY[other]);
        }
    }

    /** Five laws, each a run of steps over a small stack. */
    private static final class Laws {
        static final int HIGH = 0;
        static final int TIDE = 1;
        static final int SUN = 2;
        static final int SLIP = 3;
        static final int DOG = 4;
        static final int MANY = 5;

        /** The steps that are no SIGN; a SIGN's step is its byte. */
        static final int NUMBER = 1;
        static final int VARIABLE = 2;
        static final int UNLESS_LESS = 3;
        static final int ANSWER = 4;

        static final int Y = 1;
        static final int FAR = 3;
        static final int VARIABLES = 5;
        /** 400 TOKENS make one step each at most, besides the steps of laws that are not told. */
        static final int STEPS = 450;
        /** A sum and a product wait at each depth of 7, and one side of an if. */
        static final int STACK = 20;

        final int[] steps = new int[STEPS];
        final int[] starts = new int[MANY];
        final int[] variables = new int[VARIABLES];
        final int[] stack = new int[STACK];
        int used;

        void clear() {
            used = 0;
            begin(HIGH);
            tellOne(VARIABLE, Y);
            begin(TIDE);
            tellOne(NUMBER, 0);
            begin(SUN);
            tellOne(NUMBER, 100);
            begin(SLIP);
            tellOne(VARIABLE, FAR);
            begin(DOG);
            tellOne(NUMBER, 0);
        }

        private void tellOne(int step, int argument) {
            emit(step, argument);
            emit(ANSWER, 0);
        }

        void begin(int law) {
            if (law >= 0 && law < MANY) {
                starts[law] = used;
            }
        }

        int emit(int step, int argument) {
            int at = used;
            if (at < STEPS) {
                steps[at] = argument * 256 + step;
                used++;
            }
            return at;
        }

        void jumpHere(int at) {
            if (at >= 0 && at < used) {
                steps[at] = used * 256 + UNLESS_LESS;
            }
        }

        int high(int x, int y) {
            setVariables(x, y, 0, 0, 0);
            return within(-9999, value(HIGH), 9999);
        }

        int tide(int minute) {
            setVariables(0, 0, minute, 0, 0);
            return within(-9999, value(TIDE), 9999);
        }

        int sun(int minute) {
            setVariables(0, 0, minute, 0, 0);
            return within(0, value(SUN), 100);
        }

        int slip(int far, int off) {
            setVariables(0, 0, 0, far, off);
            return within(0, value(SLIP), 9999);
        }

        int loose(int x, int y, int minute) {
            setVariables(x, y, minute, 0, 0);
            return within(0, value(DOG), 100);
        }

        private static int within(int least, int value, int most) {
            return Math.max(least, Math.min(value, most));
        }

        private void setVariables(int x, int y, int minute, int far, int off) {
            variables[0] = x;
            variables[1] = y;
            variables[2] = minute;
            variables[3] = far;
            variables[4] = off;
        }

        private int value(int law) {
            int at = starts[law];
            int top = 0;
            for (int n = 0; n < STEPS && at >= 0 && at < used; n++) {
                int step = steps[at] & 255;
                int argument = steps[at] >> 8;
                at++;
                if (step == NUMBER || step == VARIABLE) {
                    if (top >= STACK || argument < 0 || step == VARIABLE && argument >= VARIABLES) {
                        return 0;
                    }
                    stack[top] = step == NUMBER ? argument : variables[argument];
                    top++;
                } else if (step == ANSWER) {
                    return top > 0 ? stack[top - 1] : 0;
                } else {
                    top -= 2;
                    if (top < 0) {
                        return 0;
                    }
                    int left = stack[top];
                    int right = stack[top + 1];
                    if (step == UNLESS_LESS) {
                        at = left < right ? at : argument;
                    } else if (step == '/' && right == 0) {
                        return 0;
                    } else {
                        stack[top] = combined(step, left, right);
                        top++;
                    }
                }
            }
            return 0;
        }

        private static int combined(int sign, int left, int right) {
            if (sign == '+') {
                return left + right;
            }
            if (sign == '-') {
                return left - right;
            }
            if (sign == '*') {
                return left * right;
            }
            return right == 0 ? 0 : left / right;
        }
    }

    /** The sand of a PART through the day. */
    private static final class Sand {
        int x;
        int y;
        int high;
        int minutes;
        /** Empty till the first text with such a PART, so that objects that tell little stay small. */
        int[] free = new int[0];
        int[] starts = new int[0];

        void settle(int[] tide, int from, int to) {
            if (free.length < DAY) {
                free = new int[DAY];
                starts = new int[DAY];
            }
            int run = 0;
            for (int minute = 0; minute < DAY; minute++) {
                run = tide[minute] >= high ? 0 : run + 1;
                free[minute] = run;
            }
            int holding = 0;
            int start = CANNOT;
            for (int minute = DAY - 1; minute >= 0; minute--) {
                boolean holds = free[minute] >= from && free[minute] <= to;
                holding = holds ? holding + 1 : 0;
                if (holding >= minutes) {
                    start = minute;
                }
                starts[minute] = start;
            }
        }

        int freeFor(int minute) {
            return minute >= 0 && minute < free.length ? free[minute] : 0;
        }

        int startFrom(int minute) {
            return minute >= 0 && minute < starts.length ? starts[minute] : CANNOT;
        }

        /** COVERED in one of the minutes done .. minute: it has been FREE for fewer minutes than these are. */
        boolean washed(int done, int minute) {
            return freeFor(minute) <= minute - done;
        }
    }

    /** The text and all that follows from it alone. */
    private static final class Shore {
        Script script = new Script();
        final int[] tide = new int[DAY];
        final int[] sun = new int[DAY];
        final Sand[] sands = new Sand[PARTS];
        final int[] worthOf = new int[SETS];
        final int[] errors = new int[PARTS];
        final int[] measuredFrom = new int[PARTS];

        Shore() {
            for (int i = 0; i < PARTS; i++) {
                sands[i] = new Sand();
            }
        }

        void settle() {
            for (int minute = 0; minute < DAY; minute++) {
                tide[minute] = script.laws.tide(minute);
                sun[minute] = script.laws.sun(minute);
            }
            for (int part = 0; part < script.parts; part++) {
                Sand sand = sands[part];
                sand.x = script.partX[part];
                sand.y = script.partY[part];
                sand.minutes = script.minutes[part];
                layOut(sand);
                for (int set = 1 << part; set < 2 << part; set++) {
                    worthOf[set] = worthOf[set - (1 << part)] + script.worth[part];
                }
            }
            settleErrors();
        }

        void layOut(Sand sand) {
            sand.high = script.laws.high(sand.x, sand.y);
            sand.settle(tide, script.holdsFrom, script.holdsTo);
        }

        boolean holds(Sand sand, int minute) {
            int free = sand.freeFor(minute);
            return free >= script.holdsFrom && free <= script.holdsTo;
        }

        int dogTells(int part, int minute) {
            return script.laws.loose(script.partX[part], script.partY[part], minute);
        }

        int allParts() {
            return (1 << script.parts) - 1;
        }

        private void settleErrors() {
            int settled = 0;
            for (int part = 0; part < script.parts; part++) {
                errors[part] = script.laws.slip(script.farFromPeg(part), 0);
                measuredFrom[part] = CANNOT;
            }
            for (int n = 0; n < script.parts; n++) {
                int next = leastError(settled);
                if (next >= 0) {
                    settled |= 1 << next;
                    measureFrom(next, settled);
                }
            }
        }

        private int leastError(int settled) {
            int least = NONE;
            for (int part = 0; part < script.parts; part++) {
                boolean open = (settled >> part & 1) == 0;
                if (open && (least < 0 || errors[part] < errors[least])) {
                    least = part;
                }
            }
            return least;
        }

        private void measureFrom(int source, int settled) {
            for (int part = 0; part < script.parts; part++) {
                if ((settled >> part & 1) != 0) {
                    continue;
                }
                int off = errors[source];
                int error = off + script.laws.slip(script.farBetween(source, part), off);
                boolean sooner = error == errors[part] && source < measuredFrom[part];
                if (error < errors[part] || sooner) {
                    errors[part] = error;
                    measuredFrom[part] = source;
                }
            }
        }
    }

    /** A WORKER where he is. */
    private static final class Walker {
        int x;
        int y;
        int speed;
        int ready;
        int raked;

        void copy(Walker other) {
            x = other.x;
            y = other.y;
            speed = other.speed;
            ready = other.ready;
            raked = other.raked;
        }

        void begin(Script script, int worker) {
            x = script.workerX[worker];
            y = script.workerY[worker];
            speed = script.speed[worker];
            ready = 0;
            raked = 0;
        }

        int comesTo(Sand sand) {
            return ready + roundedUp(far(x, y, sand.x, sand.y), speed);
        }

        void goTo(Sand sand, int minute) {
            x = sand.x;
            y = sand.y;
            ready = minute;
        }
    }

    /** How things stand by what was done by hand. */
    private static final class Stand {
        static final int SENT = 0;
        static final int CROSSED = 1;
        static final int MENDED = 2;

        final Walker[] walkers = new Walker[WORKERS];
        final int[] done = new int[PARTS];
        /** 0 if the raking that stands was not MENDED: no PART is DONE from so early on. */
        final int[] mended = new int[PARTS];
        final int[] rakedBy = new int[PARTS];
        final boolean[] crossed = new boolean[PARTS];
        /** The first acts only: with more of them LATE tells nothing. */
        final int[] actKinds = new int[REPLAYED];
        final int[] actWorkers = new int[REPLAYED];
        final int[] actParts = new int[REPLAYED];
        int acts;

        Stand() {
            for (int i = 0; i < WORKERS; i++) {
                walkers[i] = new Walker();
            }
        }

        void begin(Script script) {
            for (int i = 0; i < WORKERS; i++) {
                walkers[i].begin(script, i);
            }
            for (int i = 0; i < PARTS; i++) {
                done[i] = CANNOT;
                mended[i] = 0;
                rakedBy[i] = CANNOT;
                crossed[i] = false;
            }
            acts = 0;
        }

        void copy(Stand other) {
            for (int i = 0; i < WORKERS; i++) {
                walkers[i].copy(other.walkers[i]);
            }
            for (int i = 0; i < PARTS; i++) {
                done[i] = other.done[i];
                mended[i] = other.mended[i];
                rakedBy[i] = other.rakedBy[i];
                crossed[i] = other.crossed[i];
            }
            System.arraycopy(other.actKinds, 0, actKinds, 0, REPLAYED);
            System.arraycopy(other.actWorkers, 0, actWorkers, 0, REPLAYED);
            System.arraycopy(other.actParts, 0, actParts, 0, REPLAYED);
            acts = other.acts;
        }

        int wouldBeDone(Shore shore, int worker, int part) {
            Sand sand = shore.sands[part];
            int comes = walkers[worker].comesTo(sand);
            if (done[part] >= 0 && !sand.washed(done[part], comes)) {
                return CANNOT;
            }
            int start = sand.startFrom(comes);
            return start < 0 ? CANNOT : start + sand.minutes;
        }

        int rake(Shore shore, int worker, int part) {
            int end = wouldBeDone(shore, worker, part);
            if (end < 0) {
                return CANNOT;
            }
            walkers[worker].goTo(shore.sands[part], end);
            walkers[worker].raked += shore.script.worth[part];
            done[part] = end;
            mended[part] = 0;
            rakedBy[part] = worker;
            crossed[part] = false;
            addAct(SENT, worker, part);
            return end;
        }

        boolean strike(int part) {
            if (done[part] < 0 || crossed[part]) {
                return false;
            }
            crossed[part] = true;
            addAct(CROSSED, 0, part);
            return true;
        }

        int repair(Shore shore, int worker, int part) {
            if (!crossed[part]) {
                return CANNOT;
            }
            Sand sand = shore.sands[part];
            int end = walkers[worker].comesTo(sand) + roundedUp(sand.minutes, 3);
            if (end > DAY) {
                return CANNOT;
            }
            walkers[worker].goTo(sand, end);
            mended[part] = end;
            crossed[part] = false;
            addAct(MENDED, worker, part);
            return end;
        }

        private void addAct(int kind, int worker, int part) {
            if (acts < REPLAYED) {
                actKinds[acts] = kind;
                actWorkers[acts] = worker;
                actParts[acts] = part;
            }
            acts++;
        }

        /** The minute from which a PART that was DONE can be SEEN. */
        int visibleFrom(int part) {
            return Math.max(done[part], mended[part]);
        }

        boolean isVisible(Shore shore, int part, int minute) {
            if (done[part] < 0 || crossed[part] || visibleFrom(part) > minute) {
                return false;
            }
            return !shore.sands[part].washed(done[part], minute);
        }

        int visible(Shore shore, int minute) {
            int set = 0;
            for (int part = 0; part < shore.script.parts; part++) {
                if (isVisible(shore, part, minute)) {
                    set |= 1 << part;
                }
            }
            return set;
        }

        int neverDone() {
            int set = 0;
            for (int part = 0; part < PARTS; part++) {
                if (done[part] < 0) {
                    set |= 1 << part;
                }
            }
            return set;
        }

        int crossedSet() {
            int set = 0;
            for (int part = 0; part < PARTS; part++) {
                if (crossed[part]) {
                    set |= 1 << part;
                }
            }
            return set;
        }
    }

    /** What the last acts changed: each touches one PART and one WORKER at most. */
    private static final class Past {
        static final int NOTED = 10;
        /** One more than can be undone: an act is noted ahead of being tried, and a refused one must spoil no kept note. */
        static final int PLACES = UNDOABLE + 1;

        final int[] notes = new int[PLACES * NOTED];
        int next;
        int size;

        void note(Stand stand, int worker, int part) {
            int at = next * NOTED;
            Walker walker = stand.walkers[worker];
            notes[at] = worker;
            notes[at + 1] = part;
            notes[at + 2] = walker.x;
            notes[at + 3] = walker.y;
            notes[at + 4] = walker.ready;
            notes[at + 5] = walker.raked;
            notes[at + 6] = stand.done[part];
            notes[at + 7] = stand.mended[part];
            notes[at + 8] = stand.rakedBy[part];
            notes[at + 9] = stand.crossed[part] ? 1 : 0;
        }

        void keep() {
            next = (next + 1) % PLACES;
            size = Math.min(size + 1, UNDOABLE);
        }

        boolean takeBack(Stand stand) {
            if (size == 0) {
                return false;
            }
            size--;
            next = (next + PLACES - 1) % PLACES;
            int at = next * NOTED;
            Walker walker = stand.walkers[notes[at]];
            int part = notes[at + 1];
            walker.x = notes[at + 2];
            walker.y = notes[at + 3];
            walker.ready = notes[at + 4];
            walker.raked = notes[at + 5];
            stand.done[part] = notes[at + 6];
            stand.mended[part] = notes[at + 7];
            stand.rakedBy[part] = notes[at + 8];
            stand.crossed[part] = notes[at + 9] == 1;
            stand.acts--;
            return true;
        }
    }

    /** For each set of PARTS and its last one: how soon a WORKER is through with it, in the best order. */
    private static final class Rows {
        Sand[] sands = new Sand[0];
        int parts;
        boolean mending;
        final int[] ways = new int[PARTS * PARTS];
        final int[] firstComes = new int[PARTS];
        /** Empty till first used, so that objects that plan nothing stay small. */
        int[] ends = new int[0];
        int[] soonest = new int[1];

        void fill(Sand[] newSands, int newParts, int allowed, Walker walker, boolean newMending) {
            sands = newSands;
            parts = Math.min(newParts, Math.min(PARTS, newSands.length));
            mending = newMending;
            if (ends.length < SETS * PARTS) {
                ends = new int[SETS * PARTS];
                soonest = new int[SETS];
            }
            measure(walker);
            soonest[0] = walker.ready;
            for (int set = 1; set < 1 << parts; set++) {
                soonest[set] = NEVER;
                for (int last = 0; last < parts && (set & ~allowed) == 0; last++) {
                    int rest = set ^ 1 << last;
                    if (rest < set) {
                        int end = endOf(rest, last);
                        ends[set * PARTS + last] = end;
                        soonest[set] = Math.min(soonest[set], end);
                    }
                }
            }
        }

        private void measure(Walker walker) {
            for (int to = 0; to < parts; to++) {
                Sand sand = sands[to];
                firstComes[to] = walker.comesTo(sand);
                for (int from = 0; from < parts; from++) {
                    int far = far(sands[from].x, sands[from].y, sand.x, sand.y);
                    ways[from * PARTS + to] = roundedUp(far, walker.speed);
                }
            }
        }

        private int endOf(int rest, int last) {
            if (rest == 0) {
                return endFrom(firstComes[last], last);
            }
            if (soonest[rest] >= NEVER) {
                return NEVER;
            }
            int comes = NEVER;
            for (int before = 0; before < parts; before++) {
                if ((rest >> before & 1) != 0) {
                    comes = Math.min(comes, ends[rest * PARTS + before] + ways[before * PARTS + last]);
                }
            }
            return endFrom(comes, last);
        }

        /** Who comes sooner ends no later, so the soonest coming is all that counts. */
        private int endFrom(int comes, int part) {
            Sand sand = sands[part];
            if (mending) {
                int end = comes + roundedUp(sand.minutes, 3);
                return end > DAY ? NEVER : end;
            }
            int start = sand.startFrom(comes);
            return start < 0 ? NEVER : start + sand.minutes;
        }

        int bestSet(int[] worthOf, int b) {
            int best = 0;
            for (int set = 1; set < 1 << parts; set++) {
                if (soonest[set] > b || worthOf[set] < worthOf[best]) {
                    continue;
                }
                if (worthOf[set] > worthOf[best] || soonest[set] < soonest[best]) {
                    best = set;
                }
            }
            return best;
        }

        boolean isBy(int set, int b) {
            return set == 0 || soonest[set] <= b;
        }

        /** Writes the row of a set that can be done; answers how many PARTS it has. */
        int trace(int set, int[] row) {
            int size = Integer.bitCount(set);
            int rest = set;
            int following = NONE;
            int end = soonest[set];
            for (int i = size - 1; i >= 0; i--) {
                int last = firstLast(rest, following, end);
                if (last < 0 || i >= row.length) {
                    return 0;
                }
                row[i] = last;
                end = ends[rest * PARTS + last];
                rest ^= 1 << last;
                following = last;
            }
            return size;
        }

        /**
         * In spans stands how soon each set of PARTS is DONE by WORKERS that share it; this one comes to them.
         * Greater sets come first: what they are made of must not know him yet.
         */
        void shareIn(int[] spans) {
            for (int set = (1 << parts) - 1; set > 0; set--) {
                int least = spans[set];
                for (int mine = set; mine > 0; mine = mine - 1 & set) {
                    if (soonest[mine] < least) {
                        least = Math.min(least, Math.max(soonest[mine], spans[set ^ mine]));
                    }
                }
                spans[set] = least;
            }
        }

        private int firstLast(int set, int following, int end) {
            for (int last = 0; last < parts; last++) {
                if ((set >> last & 1) == 0) {
                    continue;
                }
                int reached = ends[set * PARTS + last];
                if (following >= 0) {
                    reached = endFrom(reached + ways[last * PARTS + following], following);
                }
                if (reached == end) {
                    return last;
                }
            }
            return NONE;
        }
    }

    /** PLANS of the WORKERS as things stand; what was found is kept till something happens. */
    private static final class Planner {
        final Rows[] rows = new Rows[WORKERS];
        final boolean[] known = new boolean[WORKERS];
        final Rows otherRows = new Rows();
        final Walker walker = new Walker();
        final int[] row = new int[PARTS];
        /** How soon each set of PARTS is DONE by all WORKERS together. */
        final int[] sharedSpans = new int[SETS];
        boolean sharedKnown;
        final int[] sizedSpans = new int[SETS];
        final Sand[] sizedSands = new Sand[PARTS];
        /** How soon the whole drawing of k quarters is DONE; kept till the next text. */
        final int[] spanOfSize = new int[LARGEST + 1];

        Planner() {
            for (int i = 0; i < WORKERS; i++) {
                rows[i] = new Rows();
            }
            for (int i = 0; i < PARTS; i++) {
                sizedSands[i] = new Sand();
            }
        }

        void forgetRows() {
            for (int i = 0; i < WORKERS; i++) {
                known[i] = false;
            }
            sharedKnown = false;
        }

        Rows rowsOf(Shore shore, Stand stand, int worker) {
            if (!known[worker]) {
                rows[worker].fill(shore.sands, shore.script.parts, stand.neverDone(), stand.walkers[worker], false);
                known[worker] = true;
            }
            return rows[worker];
        }

        Rows mendingRows(Shore shore, Stand stand, int worker) {
            otherRows.fill(shore.sands, shore.script.parts, stand.crossedSet(), stand.walkers[worker], true);
            return otherRows;
        }

        /** Writes the row of the WORKER's PLAN; answers how many PARTS it has. */
        int trace(Shore shore, Stand stand, int worker, int b) {
            Rows own = rowsOf(shore, stand, worker);
            return own.trace(own.bestSet(shore.worthOf, b), row);
        }

        int visibleAfter(Shore shore, Stand stand, int worker, int b, int minute) {
            Rows own = rowsOf(shore, stand, worker);
            int size = own.trace(own.bestSet(shore.worthOf, b), row);
            int raked = 0;
            int set = 0;
            for (int i = 0; i < size; i++) {
                int part = row[i];
                raked |= 1 << part;
                int done = own.ends[raked * PARTS + part];
                if (done <= minute && !shore.sands[part].washed(done, minute)) {
                    set |= 1 << part;
                }
            }
            return set;
        }

        /** The bits of the first one times SETS and those of the other one. */
        int bestPair(Shore shore, Rows first, Rows second, int b) {
            int all = shore.allParts();
            int most = 0;
            int best = 0;
            for (int mine = 0; mine <= all; mine++) {
                if (!first.isBy(mine, b)) {
                    continue;
                }
                int open = all ^ mine;
                for (int n = 0, others = 0; n <= all; n++) {
                    int worth = shore.worthOf[mine] + shore.worthOf[others];
                    if (worth > most && second.isBy(others, b)) {
                        most = worth;
                        best = mine * SETS + others;
                    }
                    if (others == open) {
                        break;
                    }
                    others = others - open & open;
                }
            }
            return best;
        }

        int sharedSet(Shore shore, Stand stand, int b) {
            if (!sharedKnown) {
                beginSpans(sharedSpans);
                for (int worker = 0; worker < shore.script.workers; worker++) {
                    rowsOf(shore, stand, worker).shareIn(sharedSpans);
                }
                sharedKnown = true;
            }
            int best = 0;
            for (int set = 1; set <= shore.allParts(); set++) {
                if (sharedSpans[set] <= b && shore.worthOf[set] > shore.worthOf[best]) {
                    best = set;
                }
            }
            return best;
        }

        private static void beginSpans(int[] spans) {
            Arrays.fill(spans, NEVER);
            spans[0] = 0;
        }

        /** Who is ready later never does more, so the greatest delay is found by halving. */
        int slack(Shore shore, Stand stand, int worker, int b) {
            Rows own = rowsOf(shore, stand, worker);
            int worth = shore.worthOf[own.bestSet(shore.worthOf, b)];
            int least = 0;
            int most = DAY - 1;
            if (worth == 0) {
                return most;
            }
            for (int n = 0; n < DAY && least < most; n++) {
                int delay = (least + most + 1) / 2;
                if (worthLater(shore, stand, worker, b, delay) >= worth) {
                    least = delay;
                } else {
                    most = delay - 1;
                }
            }
            return least;
        }

        private int worthLater(Shore shore, Stand stand, int worker, int b, int delay) {
            walker.copy(stand.walkers[worker]);
            walker.ready += delay;
            otherRows.fill(shore.sands, shore.script.parts, stand.neverDone(), walker, false);
            return shore.worthOf[otherRows.bestSet(shore.worthOf, b)];
        }

        void forgetSizes() {
            Arrays.fill(spanOfSize, NONE);
        }

        int largest(Shore shore, int b) {
            for (int k = LARGEST; k > 0; k--) {
                if (spanOfSize[k] == NONE) {
                    spanOfSize[k] = spanOf(shore, k);
                }
                if (spanOfSize[k] <= b) {
                    return k;
                }
            }
            return 0;
        }

        private int spanOf(Shore shore, int k) {
            Script script = shore.script;
            for (int part = 0; part < script.parts; part++) {
                Sand sand = sizedSands[part];
                sand.x = script.pegX + k * (script.partX[part] - script.pegX) / QUARTERS;
                sand.y = script.pegY + k * (script.partY[part] - script.pegY) / QUARTERS;
                sand.minutes = roundedUp(k * script.minutes[part], QUARTERS);
                shore.layOut(sand);
            }
            beginSpans(sizedSpans);
            for (int worker = 0; worker < script.workers; worker++) {
                walker.begin(script, worker);
                otherRows.fill(sizedSands, script.parts, shore.allParts(), walker, false);
                otherRows.shareIn(sizedSpans);
            }
            return sizedSpans[shore.allParts()];
        }
    }

    /** What was TOLD, and who could have been LATE by it. */
    private static final class Told {
        final int[] parts = new int[TELLINGS];
        final int[] minutes = new int[TELLINGS];
        final boolean[] there = new boolean[TELLINGS];
        final Stand again = new Stand();
        int size;

        int add(int part, int minute, boolean wasThere) {
            if (size >= TELLINGS) {
                return NONE;
            }
            parts[size] = part;
            minutes[size] = minute;
            there[size] = wasThere;
            size++;
            return size - 1;
        }

        /** The i-th way, or how many there are if i is NONE. */
        int way(Shore shore, Stand stand, int k, int i) {
            int ways = 0;
            for (int worker = 0; worker < shore.script.workers; worker++) {
                for (int late = worker == 0 ? 0 : 1; late <= LATEST; late++) {
                    replay(shore, stand, worker, late);
                    if (!agrees(shore, k)) {
                        continue;
                    }
                    if (ways == i) {
                        return 100 * worker + late;
                    }
                    ways++;
                }
            }
            return i == NONE ? ways : NONE;
        }

        private void replay(Shore shore, Stand stand, int worker, int late) {
            again.begin(shore.script);
            again.walkers[worker].ready = late;
            int acts = Math.min(stand.acts, REPLAYED);
            for (int i = 0; i < acts; i++) {
                int by = stand.actWorkers[i];
                int part = stand.actParts[i];
                if (stand.actKinds[i] == Stand.SENT) {
                    again.rake(shore, by, part);
                } else if (stand.actKinds[i] == Stand.CROSSED) {
                    again.strike(part);
                } else {
                    again.repair(shore, by, part);
                }
            }
        }

        private boolean agrees(Shore shore, int k) {
            int known = Math.min(k, size);
            for (int i = 0; i < known; i++) {
                if (again.isVisible(shore, parts[i], minutes[i]) != there[i]) {
                    return false;
                }
            }
            return true;
        }
    }
}
