/** A parish that keeps its bounds in the heads of those who were bumped at its stones. */
public final class BeatBounds {
    public static final int NONE = -1000000, BAD = -1000001, STATE = -1000002, FULL = -1000003;

    private static final int FOUND = -1000010;
    private static final int FOUND_NULL = 1, FOUND_PLACE = 2, FOUND_KIND = 3, FOUND_SIZE = 4, FOUND_STORE = 5;
    private static final int FAULTY = -1000100;

    private static final int ROWS = 8, ITEMS = 40, LANES = 3;
    private static final int BYTES = 0, SHORTS = 1;
    private static final int TAPE = 120;

    /** As many stones, and as many witnesses, as a parish has room for. */
    private static final int ROOM = 6;
    private static final int TOP_YARD = 99;
    private static final int TOP_PAIN = 9, TWIN_PAIN = 5;
    private static final int TOP_BRIBE = 20;
    private static final int TAKEN_AGE = 60;
    private static final int TOP_LAW = 30;
    private static final int TOP_YEAR = 999, YEARS_A_CALL = 24;
    private static final int TILL_YEARS = 99, FORETOLD_YEARS = 60;
    private static final int NEAR = 2;
    private static final int STOOD_OFF = 3, STOOD_DRIFT = 12;
    private static final int TOP_SEED = 999999;
    private static final int ACTS = 24;
    private static final int IMAGES = 2;
    private static final int TRACED = 16;

    private static final int WITNESS = 0, HONEST = 1, BRIBED = 2, DRIFTING = 3, TWIN = 4, NOTE = 5, KINDS = 6;
    private static final int SIZE = 0, MARK = 1;

    /** The kind above each kind; a WITNESS is the uppermost and stands above itself. */
    private static final int[] ABOVE = {WITNESS, WITNESS, HONEST, HONEST, WITNESS, TWIN};
    /** The body told for each kind; 0: none, so that of the kind above it begins. */
    private static final int[] SIZE_BODIES = {10, 11, 12, 0, 13, 14};
    private static final int[] MARK_BODIES = {20, 21, 24, 22, 23, 0};

    private final Row[] rows = new Row[ROWS];
    private final Tape tape = new Tape();
    private final Parish now = new Parish();
    /** What is foretold, or read and may yet be faulty, is tried on this one. */
    private final Parish trial = new Parish();
    private final Parish[] images = new Parish[IMAGES];
    private final Acts acts = new Acts();
    private final Oaths oaths = new Oaths();
    private final Asks asks = new Asks();
    private int status = 0;

    public BeatBounds() {
        for (int i = 0; i < ROWS; i++) {
            rows[i] = new Row();
        }
        for (int i = 0; i < IMAGES; i++) {
            images[i] = new Parish();
        }
    }

    // ---- rows

    public int row(int row, int lane, int n) {
        if (!isRow(row) || lane < 0 || lane >= LANES || n > ITEMS) {
            return BAD;
        }
        if (n < 0) {
            return finding(FOUND_SIZE);
        }
        rows[row].begin(lane, n);
        return fine(n);
    }

    public int set(int row, int i, int v) {
        if (!isRow(row)) {
            return BAD;
        }
        Row r = rows[row];
        if (!r.there) {
            return finding(FOUND_NULL);
        }
        if (!r.holds(i, 1)) {
            return finding(FOUND_PLACE);
        }
        r.items[i] = r.cut(v);
        return fine(r.items[i]);
    }

    public int copy(int a, int i, int b, int j, int n) {
        if (!isRow(a) || !isRow(b)) {
            return BAD;
        }
        Row from = rows[a];
        Row to = rows[b];
        if (!from.there || !to.there) {
            return finding(FOUND_NULL);
        }
        if (from.lane != to.lane) {
            return finding(FOUND_STORE);
        }
        if (!from.holds(i, n) || !to.holds(j, n)) {
            return finding(FOUND_PLACE);
        }
        System.arraycopy(from.items, i, to.items, j, n);
        return fine(n);
    }

    public int drop(int row) {
        if (!isRow(row)) {
            return BAD;
        }
        Row r = rows[row];
        if (!r.there) {
            return finding(FOUND_NULL);
        }
        r.there = false;
        return fine(r.size);
    }

    // ---- what is told

    public int feed(int letter) {
        if (letter < 0 || letter > 255) {
            return BAD;
        }
        if (!tape.hasRoom()) {
            return FULL;
        }
        return tape.append(letter);
    }

    public int parish() {
        trial.clear();
        if (!tape.readInto(trial)) {
            return FAULTY - tape.faultPlace;
        }
        now.become(trial);
        acts.forgetAll();
        return now.witnesses;
    }

    public int fault() {
        return tape.fault;
    }

    public int undo() {
        if (acts.size == 0) {
            return STATE;
        }
        acts.takeBack(now);
        return acts.size;
    }

    // ---- what is done

    public int walk(int stone, int who, int pain) {
        if (!isStone(stone) || !isPain(pain) || who < 0 || who > now.everybody()) {
            return BAD;
        }
        acts.keep(Acts.WALK, stone, now);
        return now.bump(stone, who, pain);
    }

    public int move(int stone, int yard) {
        if (!isStone(stone) || !isYard(yard)) {
            return BAD;
        }
        int was = now.yards[stone];
        acts.keep(Acts.MOVE, stone, now);
        now.yards[stone] = yard;
        return was;
    }

    public int bribe(int witness, int yards) {
        if (!isWitness(witness) || yards < -TOP_BRIBE || yards > TOP_BRIBE) {
            return BAD;
        }
        if (now.kinds[witness] != BRIBED) {
            return STATE;
        }
        int was = now.bribes[witness];
        acts.keep(Acts.BRIBE, witness, now);
        now.bribes[witness] = yards;
        return was;
    }

    public int years(int n) {
        if (!now.told) {
            return STATE;
        }
        if (n < 1 || n > YEARS_A_CALL) {
            return BAD;
        }
        if (now.year + n > TOP_YEAR) {
            return FULL;
        }
        for (int i = 0; i < n; i++) {
            acts.keep(Acts.YEAR, 0, now);
            now.year++;
        }
        return Integer.bitCount(now.living());
    }

    public int witness(int witness, int what) {
        if (!isWitness(witness)) {
            return BAD;
        }
        switch (what) {
            case 0: return now.age(witness);
            case 1: return now.ends[witness];
            case 2: return now.isAlive(witness) ? 1 : 0;
            case 3: return now.bribes[witness];
            case 4: return now.stonesSwornBy(witness);
            default: return BAD;
        }
    }

    public int memory(int witness, int stone, int what) {
        if (!isWitness(witness) || !isStone(stone) || what < 0 || what > 3) {
            return BAD;
        }
        if (what == 3) {
            return now.oath(witness, stone);
        }
        int at = now.placeOf(witness, stone);
        if (now.bumpPain[at] == 0) {
            return NONE;
        }
        return what == 0 ? now.bumpYard[at] : what == 1 ? now.bumpPain[at] : now.bumpYear[at];
    }

    public int stone(int stone) {
        return isStone(stone) ? now.yards[stone] : BAD;
    }

    // ---- foretold

    public int sworn(int stone, int what) {
        if (!isStone(stone) || what < 0 || what > 5) {
            return BAD;
        }
        oaths.gather(now, stone);
        if (what == 0) {
            return oaths.many;
        }
        if (what == 1) {
            return now.swearersTo(stone);
        }
        if (oaths.many == 0) {
            return NONE;
        }
        switch (what) {
            case 2: return oaths.least();
            case 3: return oaths.greatest();
            case 4: return oaths.middle();
            default: return oaths.ofOldest(now);
        }
    }

    public int belief(int stone, int yard, int what) {
        if (!isStone(stone) || !isYard(yard) || !isEither(what)) {
            return BAD;
        }
        oaths.gather(now, stone);
        if (oaths.many == 0) {
            return STATE;
        }
        int alike = oaths.alike(yard);
        return inLowestTerms(what == 0 ? alike : oaths.many, alike, oaths.many);
    }

    public int likeliest(int stone) {
        if (!isStone(stone)) {
            return BAD;
        }
        oaths.gather(now, stone);
        return oaths.likeliestYard();
    }

    public int till(int stone, int n) {
        if (!isStone(stone) || !isMany(n)) {
            return BAD;
        }
        trial.become(now);
        for (int gone = 0; gone <= TILL_YEARS; gone++) {
            trial.year = now.year + gone;
            if (Integer.bitCount(trial.swearersTo(stone)) < n) {
                return gone;
            }
        }
        return NONE;
    }

    public int take(int stone, int pain, int k, int n, int what) {
        if (!isStone(stone) || !isPain(pain) || !isLater(k) || !isMany(n) || !isEither(what)) {
            return BAD;
        }
        int able = now.takable();
        trial.become(now);
        trial.year = now.year + k;
        int untaken = trial.swearersTo(stone);
        int taken = swearersIfTaken(stone, pain, k);
        int best = NONE;
        for (int who = 0; who <= able; who++) {
            // to be bumped anew can also shorten what is remembered: untaken ones count by their old bump
            int swear = Integer.bitCount(who & taken) + Integer.bitCount(~who & untaken);
            boolean fewer = best == NONE || Integer.bitCount(who) < Integer.bitCount(best);
            if ((who & ~able) == 0 && swear >= n && fewer) {
                best = who;
            }
        }
        return best == NONE || what == 1 ? best : Integer.bitCount(best);
    }

    public int pain(int stone, int k, int n) {
        if (!isStone(stone) || !isLater(k) || !isMany(n)) {
            return BAD;
        }
        trial.become(now);
        for (int pain = 1; pain <= TOP_PAIN; pain++) {
            if (Integer.bitCount(swearersIfTaken(stone, pain, k)) >= n) {
                return pain;
            }
        }
        return NONE;
    }

    public int order(int stone, int k) {
        if (!isStone(stone) || k < -1 || k >= ROOM) {
            return BAD;
        }
        oaths.gather(now, stone);
        oaths.countOrders();
        return k == -1 ? oaths.orders() : oaths.inFirstOrder(k);
    }

    public int stood(int row, int i, int what) {
        if (!now.told) {
            return STATE;
        }
        if (!isRow(row) || !isEither(what)) {
            return BAD;
        }
        Row r = rows[row];
        if (!r.there) {
            return finding(FOUND_NULL);
        }
        if (!r.holds(i, now.witnesses)) {
            return finding(FOUND_PLACE);
        }
        long least = 0;
        long greatest = TOP_YARD;
        for (int w = 0; w < now.witnesses; w++) {
            long says = r.items[i + w];
            if (says != -1) {
                int above = now.kinds[w] == DRIFTING ? STOOD_DRIFT : STOOD_OFF;
                least = Math.max(least, says - above);
                greatest = Math.min(greatest, says + STOOD_OFF);
            }
        }
        if (least > greatest) {
            return fine(what == 0 ? 0 : NONE);
        }
        return fine((int) (what == 0 ? greatest - least + 1 : least));
    }

    public int shift(int stone, int k) {
        if (!isStone(stone) || k < 0 || k > ROOM) {
            return BAD;
        }
        oaths.gather(now, stone);
        if (oaths.many == 0) {
            return NONE;
        }
        int honestly = oaths.middle();
        oaths.raiseBribed(now, k);
        return oaths.middle() - honestly;
    }

    public int map(int stone, int yard) {
        if (!isStone(stone) || !isYard(yard)) {
            return BAD;
        }
        oaths.gather(now, stone);
        return oaths.many - oaths.alike(yard);
    }

    public int agree(int n) {
        if (!now.told) {
            return STATE;
        }
        if (!isMany(n)) {
            return BAD;
        }
        int bits = 0;
        for (int s = 0; s < now.stones; s++) {
            oaths.gather(now, s);
            if (oaths.alike(oaths.likeliestYard()) >= n) {
                bits |= 1 << s;
            }
        }
        return bits;
    }

    public int drawn(int n, int seed, int what) {
        if (!now.told) {
            return STATE;
        }
        if (n < 0 || n > FORETOLD_YEARS || seed < 1 || seed > TOP_SEED || !isEither(what)) {
            return BAD;
        }
        trial.become(now);
        long x = seed;
        for (int i = 0; i < n; i++) {
            x = x * 16807L % 2147483647L;
            trial.passYearBy(x);
        }
        return what == 0 ? trial.stonesSworn() : trial.yardsSworn();
    }

    public int image(int k) {
        if (k < 0 || k >= IMAGES) {
            return BAD;
        }
        if (!now.told) {
            return STATE;
        }
        images[k].become(now);
        return 1;
    }

    public int restore(int k) {
        if (k < 0 || k >= IMAGES) {
            return BAD;
        }
        if (!images[k].told) {
            return STATE;
        }
        now.become(images[k]);
        acts.forgetAll();
        return 1;
    }

    // ---- asked

    public int kind(int one) {
        return isWitness(one) ? now.kinds[one] : BAD;
    }

    public int as(int one, int kind) {
        if (!isWitness(one) || kind < 0 || kind >= KINDS) {
            return BAD;
        }
        return isOf(now.kinds[one], kind) ? fine(one) : finding(FOUND_KIND);
    }

    public int ask(int one, int what) {
        if (!isWitness(one) || !isEither(what)) {
            return BAD;
        }
        return asks.answer(now, one, what);
    }

    public int trace(int i) {
        return i < 0 || i >= asks.traced ? NONE : asks.traces[i];
    }

    public int count(int what) {
        switch (what) {
            case 0: return rowsThere();
            case 1: return now.stones;
            case 2: return now.witnesses;
            case 3: return now.year;
            case 4: return now.living();
            case 5: return acts.size;
            case 6: return tape.length;
            default: return BAD;
        }
    }

    public int status() {
        return status;
    }

    // ---- what the calls share

    private int finding(int number) {
        status = number;
        return FOUND - number;
    }

    private int fine(int answer) {
        status = 0;
        return answer;
    }

    private int rowsThere() {
        int there = 0;
        for (int i = 0; i < ROWS; i++) {
            if (rows[i].there) {
                there++;
            }
        }
        return there;
    }

    /** Who swears k years later if all who can be taken are bumped now; the trial holds the others' bumps. */
    private int swearersIfTaken(int stone, int pain, int k) {
        trial.year = now.year;
        trial.bump(stone, trial.everybody(), pain);
        trial.year = now.year + k;
        return trial.swearersTo(stone);
    }

    private boolean isStone(int stone) {
        return stone >= 0 && stone < now.stones;
    }

    private boolean isWitness(int witness) {
        return witness >= 0 && witness < now.witnesses;
    }

    private static boolean isRow(int row) {
        return row >= 0 && row < ROWS;
    }

    private static boolean isYard(int yard) {
        return yard >= 0 && yard <= TOP_YARD;
    }

    private static boolean isPain(int pain) {
        return pain >= 1 && pain <= TOP_PAIN;
    }

    private static boolean isMany(int n) {
        return n >= 1 && n <= ROOM;
    }

    private static boolean isLater(int k) {
        return k >= 1 && k <= FORETOLD_YEARS;
    }

    private static boolean isEither(int what) {
        return what == 0 || what == 1;
    }

    /** One part of the fraction above by below. Six is the most that swear, so trying each divisor is short. */
    private static int inLowestTerms(int part, int above, int below) {
        for (int d = below; d > 1; d--) {
            if (above % d == 0 && below % d == 0) {
                return part / d;
            }
        }
        return part;
    }

    /** Whether one of a kind is one of another kind, too. */
    private static boolean isOf(int kind, int other) {
        int at = kind;
        for (int i = 0; i < KINDS; i++) {
            if (at == other) {
                return true;
            }
            at = ABOVE[at];
        }
        return false;
    }

    /** A row; its items are made once and used again for each row that stands in its place. */
    private static final class Row {
        final int[] items = new int[ITEMS];
        boolean there = false;
        int lane = 0;
        int size = 0;

        void begin(int newLane, int n) {
            there = true;
            lane = newLane;
            size = n;
            for (int i = 0; i < ITEMS; i++) {
                items[i] = 0;
            }
        }

        boolean holds(int i, int n) {
            // size - n, as i + n may wrap around
            return i >= 0 && n >= 0 && n <= size && i <= size - n;
        }

        int cut(int v) {
            if (lane == BYTES) {
                return (byte) v;
            }
            return lane == SHORTS ? (short) v : v;
        }
    }

    /** The tape, and how a parish is read from it. */
    private static final class Tape {
        static final int CANNOT_STAND = 1, NOT_AS_TOLD = 2, NO_ROOM = 3;

        final int[] bytes = new int[TAPE];
        int length = 0;
        int place = 0;
        int fault = 0;
        int faultPlace = 0;

        boolean hasRoom() {
            return length < TAPE;
        }

        int append(int letter) {
            if (hasRoom()) {
                bytes[length] = letter;
                length++;
            }
            return length;
        }

        boolean readInto(Parish told) {
            place = 0;
            boolean whole = readLaw(told) && readStones(told) && readWitnesses(told);
            told.told = whole;
            length = 0;
            return whole;
        }

        private boolean readLaw(Parish told) {
            if (!passes('w')) {
                return false;
            }
            told.lasts = number(1, TOP_LAW);
            if (told.lasts < 0 || !passes(',')) {
                return false;
            }
            told.drift = number(1, TOP_LAW);
            return told.drift >= 0 && passes(';');
        }

        private boolean readStones(Parish told) {
            for (int n = 0; n <= ROOM; n++) {
                if (n > 0 && letterAt(place) != 's') {
                    return true;
                }
                if (n == ROOM) {
                    return fails(NO_ROOM);
                }
                if (!passes('s')) {
                    return false;
                }
                int yard = number(0, TOP_YARD);
                if (yard < 0 || !passes(';')) {
                    return false;
                }
                told.yards[n] = yard;
                told.stones = n + 1;
            }
            return false;
        }

        private boolean readWitnesses(Parish told) {
            for (int n = 0; n <= ROOM; n++) {
                if (n > 0 && place >= length) {
                    return true;
                }
                int kind = kindTold(letterAt(place));
                if (kind == WITNESS) {
                    return fails(CANNOT_STAND);
                }
                if (n == ROOM) {
                    return fails(NO_ROOM);
                }
                place++;
                told.kinds[n] = kind;
                if (!readLife(told, n)) {
                    return false;
                }
                told.witnesses = n + 1;
            }
            return false;
        }

        private boolean readLife(Parish told, int w) {
            int age = number(0, TAKEN_AGE);
            if (age < 0 || !passes(',')) {
                return false;
            }
            int end = number(age + 1, 99);
            if (end < 0 || !passes(';')) {
                return false;
            }
            told.firstAges[w] = age;
            told.ends[w] = end;
            return true;
        }

        private boolean fails(int number) {
            fault = number;
            faultPlace = place;
            return false;
        }

        /** -1 behind the end. */
        private int letterAt(int at) {
            return at >= 0 && at < length && at < TAPE ? bytes[at] : -1;
        }

        private boolean passes(int letter) {
            if (letterAt(place) != letter) {
                return fails(CANNOT_STAND);
            }
            place++;
            return true;
        }

        /** The number that begins here; -1 with a fault. */
        private int number(int least, int greatest) {
            int figures = 0;
            int value = 0;
            while (figures < 3 && isFigure(letterAt(place + figures))) {
                value = value * 10 + letterAt(place + figures) - '0';
                figures++;
            }
            if (figures == 0 || figures == 3) {
                fails(CANNOT_STAND);
                return -1;
            }
            if (value < least || value > greatest) {
                fails(NOT_AS_TOLD);
                return -1;
            }
            place += figures;
            return value;
        }

        private static boolean isFigure(int letter) {
            return letter >= '0' && letter <= '9';
        }

        /** WITNESS where the letter is no sort. */
        private static int kindTold(int letter) {
            switch (letter) {
                case 'h': return HONEST;
                case 'b': return BRIBED;
                case 'd': return DRIFTING;
                case 't': return TWIN;
                case 'n': return NOTE;
                default: return WITNESS;
            }
        }
    }

    /** A parish in one of its years; without stones and witnesses as long as none is told. */
    private static final class Parish {
        boolean told = false;
        int lasts = 1;
        int drift = 1;
        int year = 0;
        int stones = 0;
        int witnesses = 0;
        final int[] yards = new int[ROOM];
        final int[] kinds = new int[ROOM];
        /** Ages in the year 0: all grow older alike. */
        final int[] firstAges = new int[ROOM];
        final int[] ends = new int[ROOM];
        final int[] bribes = new int[ROOM];
        /** The latest bump of each witness at each stone; a pain of 0: never. */
        final int[] bumpYard = new int[ROOM * ROOM];
        final int[] bumpPain = new int[ROOM * ROOM];
        final int[] bumpYear = new int[ROOM * ROOM];

        void clear() {
            told = false;
            lasts = 1;
            drift = 1;
            year = 0;
            stones = 0;
            witnesses = 0;
            for (int i = 0; i < ROOM; i++) {
                bribes[i] = 0;
            }
            for (int i = 0; i < ROOM * ROOM; i++) {
                bumpPain[i] = 0;
            }
        }

        void become(Parish other) {
            told = other.told;
            lasts = other.lasts;
            drift = other.drift;
            year = other.year;
            stones = other.stones;
            witnesses = other.witnesses;
            System.arraycopy(other.yards, 0, yards, 0, ROOM);
            System.arraycopy(other.kinds, 0, kinds, 0, ROOM);
            System.arraycopy(other.firstAges, 0, firstAges, 0, ROOM);
            System.arraycopy(other.ends, 0, ends, 0, ROOM);
            System.arraycopy(other.bribes, 0, bribes, 0, ROOM);
            System.arraycopy(other.bumpYard, 0, bumpYard, 0, ROOM * ROOM);
            System.arraycopy(other.bumpPain, 0, bumpPain, 0, ROOM * ROOM);
            System.arraycopy(other.bumpYear, 0, bumpYear, 0, ROOM * ROOM);
        }

        int placeOf(int w, int s) {
            return w * ROOM + s;
        }

        int everybody() {
            return (1 << witnesses) - 1;
        }

        int age(int w) {
            return firstAges[w] + year;
        }

        boolean isAlive(int w) {
            return age(w) < ends[w];
        }

        boolean isTakable(int w) {
            return isAlive(w) && age(w) <= TAKEN_AGE;
        }

        int living() {
            int bits = 0;
            for (int w = 0; w < witnesses; w++) {
                if (isAlive(w)) {
                    bits |= 1 << w;
                }
            }
            return bits;
        }

        int takable() {
            int bits = 0;
            for (int w = 0; w < witnesses; w++) {
                if (isTakable(w)) {
                    bits |= 1 << w;
                }
            }
            return bits;
        }

        /** How many of these can be taken, and so are bumped. */
        int bump(int s, int who, int pain) {
            int bumped = 0;
            for (int w = 0; w < witnesses; w++) {
                if ((who >> w & 1) == 1 && isTakable(w)) {
                    int at = placeOf(w, s);
                    bumpYard[at] = yards[s];
                    bumpPain[at] = pain;
                    bumpYear[at] = year;
                    bumped++;
                }
            }
            return bumped;
        }

        /** The yard that a witness swears to; NONE: it does not swear. */
        int oath(int w, int s) {
            int at = placeOf(w, s);
            int pain = bumpPain[at];
            int gone = year - bumpYear[at];
            int kind = kinds[w];
            if (pain == 0 || gone >= lasts * pain || kind != NOTE && !isAlive(w)) {
                return NONE;
            }
            int yard = bumpYard[at];
            switch (kind) {
                case BRIBED: return Math.max(0, Math.min(TOP_YARD, yard + bribes[w]));
                case DRIFTING: return drift < 1 ? yard : Math.min(TOP_YARD, yard + gone / drift);
                case TWIN: return pain >= TWIN_PAIN ? yard : NONE;
                default: return yard;
            }
        }

        int stonesSwornBy(int w) {
            int bits = 0;
            for (int s = 0; s < stones; s++) {
                if (oath(w, s) != NONE) {
                    bits |= 1 << s;
                }
            }
            return bits;
        }

        int swearersTo(int s) {
            int bits = 0;
            for (int w = 0; w < witnesses; w++) {
                if (oath(w, s) != NONE) {
                    bits |= 1 << w;
                }
            }
            return bits;
        }

        int stonesSworn() {
            int bits = 0;
            for (int w = 0; w < witnesses; w++) {
                bits |= stonesSwornBy(w);
            }
            return bits;
        }

        int yardsSworn() {
            int sum = 0;
            for (int w = 0; w < witnesses; w++) {
                for (int s = 0; s < stones; s++) {
                    int yard = oath(w, s);
                    sum += yard == NONE ? 0 : yard;
                }
            }
            return sum;
        }

        /** One year as the draw x has it. */
        void passYearBy(long x) {
            if (stones > 0) {
                int s = (int) (x % stones);
                if (x % 7 == 0) {
                    bump(s, everybody(), 1 + (int) (x % 9));
                }
                if (x % 5 == 0) {
                    yards[s] = Math.min(TOP_YARD, yards[s] + 1);
                }
            }
            year++;
        }
    }

    /** The latest acts, each with what it takes to undo it, in a ring. */
    private static final class Acts {
        static final int WALK = 0, MOVE = 1, BRIBE = 2, YEAR = 3;

        int size = 0;
        /** Where the next act comes in the ring. */
        int next = 0;
        final int[] sorts = new int[ACTS];
        /** The stone or the witness. */
        final int[] whose = new int[ACTS];
        /** The yard or the bribe that was. */
        final int[] was = new int[ACTS];
        /** The bumps at a walk's stone that were, of each witness. */
        final int[] wasYard = new int[ACTS * ROOM];
        final int[] wasPain = new int[ACTS * ROOM];
        final int[] wasYear = new int[ACTS * ROOM];

        void forgetAll() {
            size = 0;
        }

        /** To be called ahead of the act. */
        void keep(int sort, int one, Parish parish) {
            sorts[next] = sort;
            whose[next] = one;
            if (sort == MOVE) {
                was[next] = parish.yards[one];
            } else if (sort == BRIBE) {
                was[next] = parish.bribes[one];
            } else if (sort == WALK) {
                keepBumps(one, parish);
            }
            next = next + 1 < ACTS ? next + 1 : 0;
            size = Math.min(ACTS, size + 1);
        }

        void takeBack(Parish parish) {
            if (size == 0) {
                return;
            }
            size--;
            next = next > 0 ? next - 1 : ACTS - 1;
            int one = whose[next];
            if (sorts[next] == MOVE) {
                parish.yards[one] = was[next];
            } else if (sorts[next] == BRIBE) {
                parish.bribes[one] = was[next];
            } else if (sorts[next] == WALK) {
                takeBumpsBack(one, parish);
            } else {
                parish.year--;
            }
        }

        private void keepBumps(int s, Parish parish) {
            for (int w = 0; w < ROOM; w++) {
                int at = parish.placeOf(w, s);
                wasYard[next * ROOM + w] = parish.bumpYard[at];
                wasPain[next * ROOM + w] = parish.bumpPain[at];
                wasYear[next * ROOM + w] = parish.bumpYear[at];
            }
        }

        private void takeBumpsBack(int s, Parish parish) {
            for (int w = 0; w < ROOM; w++) {
                int at = parish.placeOf(w, s);
                parish.bumpYard[at] = wasYard[next * ROOM + w];
                parish.bumpPain[at] = wasPain[next * ROOM + w];
                parish.bumpYear[at] = wasYear[next * ROOM + w];
            }
        }
    }

    /** What is sworn to one stone, by those who swear, in the order of their numbers. */
    private static final class Oaths {
        int many = 0;
        final int[] who = new int[ROOM];
        final int[] says = new int[ROOM];
        /** By who has sworn (a set of places in who) and the last of them: in how many ways the others can follow. */
        final int[] ways = new int[(1 << ROOM) * ROOM];

        void gather(Parish parish, int s) {
            many = 0;
            for (int w = 0; w < parish.witnesses; w++) {
                int yard = parish.oath(w, s);
                if (yard != NONE) {
                    who[many] = w;
                    says[many] = yard;
                    many++;
                }
            }
        }

        int least() {
            int least = TOP_YARD;
            for (int i = 0; i < many; i++) {
                least = Math.min(least, says[i]);
            }
            return least;
        }

        int greatest() {
            int greatest = 0;
            for (int i = 0; i < many; i++) {
                greatest = Math.max(greatest, says[i]);
            }
            return greatest;
        }

        /** That which has at most half of them below it, and more than half with those alike. */
        int middle() {
            int half = many / 2;
            for (int i = 0; i < many; i++) {
                int below = below(says[i]);
                if (below <= half && half < below + alike(says[i])) {
                    return says[i];
                }
            }
            return NONE;
        }

        int ofOldest(Parish parish) {
            int oldest = NONE;
            int oath = NONE;
            for (int i = 0; i < many; i++) {
                if (parish.age(who[i]) > oldest) {
                    oldest = parish.age(who[i]);
                    oath = says[i];
                }
            }
            return oath;
        }

        int below(int yard) {
            int below = 0;
            for (int i = 0; i < many; i++) {
                if (says[i] < yard) {
                    below++;
                }
            }
            return below;
        }

        int alike(int yard) {
            int alike = 0;
            for (int i = 0; i < many; i++) {
                if (says[i] == yard) {
                    alike++;
                }
            }
            return alike;
        }

        int likeliestYard() {
            int yard = NONE;
            int most = 0;
            for (int i = 0; i < many; i++) {
                int alike = alike(says[i]);
                if (alike > most || alike == most && says[i] < yard) {
                    most = alike;
                    yard = says[i];
                }
            }
            return yard;
        }

        /** k bribed ones say 99, those who say the least first: no other choice lifts the middle more. */
        void raiseBribed(Parish parish, int k) {
            for (int turn = 0; turn < k; turn++) {
                int lowest = -1;
                for (int i = 0; i < many; i++) {
                    boolean bribed = parish.kinds[who[i]] == BRIBED;
                    if (bribed && (lowest < 0 || says[i] < says[lowest])) {
                        lowest = i;
                    }
                }
                if (lowest >= 0) {
                    says[lowest] = TOP_YARD;
                }
            }
        }

        void countOrders() {
            int all = (1 << many) - 1;
            for (int set = all; set > 0; set--) {
                for (int last = 0; last < many; last++) {
                    if ((set >> last & 1) == 1) {
                        ways[set * ROOM + last] = set == all ? 1 : waysOn(set, last);
                    }
                }
            }
        }

        private int waysOn(int set, int last) {
            int sum = 0;
            for (int next = 0; next < many; next++) {
                if ((set >> next & 1) == 0 && areNear(last, next)) {
                    sum += ways[(set | 1 << next) * ROOM + next];
                }
            }
            return sum;
        }

        private boolean areNear(int a, int b) {
            return Math.abs(says[a] - says[b]) <= NEAR;
        }

        /** After countOrders. */
        int orders() {
            if (many == 0) {
                return 1;
            }
            int sum = 0;
            for (int first = 0; first < many; first++) {
                sum += ways[(1 << first) * ROOM + first];
            }
            return sum;
        }

        /** After countOrders: the k-th witness of the first order by numbers. */
        int inFirstOrder(int k) {
            if (k < 0 || k >= many) {
                return NONE;
            }
            int set = 0;
            int last = -1;
            for (int place = 0; place <= k; place++) {
                last = firstNext(set, last);
                if (last < 0) {
                    return NONE;
                }
                set |= 1 << last;
            }
            return who[last];
        }

        private int firstNext(int set, int last) {
            for (int next = 0; next < many; next++) {
                boolean free = (set >> next & 1) == 0 && (last < 0 || areNear(last, next));
                if (free && ways[(set | 1 << next) * ROOM + next] > 0) {
                    return next;
                }
            }
            return -1;
        }
    }

    /** The asks of a witness, and the trace of the latest one. */
    private static final class Asks {
        /** Far above the deepest ask, which has five bodies open at once. */
        static final int DEEPEST = 30;

        final int[] traces = new int[TRACED];
        int traced = 0;

        int answer(Parish parish, int w, int what) {
            traced = 0;
            return begin(bodyOf(parish.kinds[w], what), parish, w, 0);
        }

        /** The body told for the kind, else that of the nearest kind above it. */
        private static int bodyOf(int kind, int what) {
            int at = kind;
            for (int i = 0; i < KINDS; i++) {
                int body = what == SIZE ? SIZE_BODIES[at] : MARK_BODIES[at];
                if (body != 0) {
                    return body;
                }
                at = ABOVE[at];
            }
            return 0;
        }

        private int anew(int what, Parish parish, int w, int depth) {
            return begin(bodyOf(parish.kinds[w], what), parish, w, depth);
        }

        private int begin(int body, Parish parish, int w, int depth) {
            if (depth > DEEPEST) {
                return 0;
            }
            leave(body);
            int deeper = depth + 1;
            switch (body) {
                case 10: return Integer.bitCount(parish.stonesSwornBy(w));
                case 11: return begin(10, parish, w, deeper) + anew(MARK, parish, w, deeper);
                case 12: return -begin(11, parish, w, deeper);
                case 13: return begin(10, parish, w, deeper) - 100;
                case 14: return 2 * begin(13, parish, w, deeper);
                case 20: return w;
                case 21: return begin(20, parish, w, deeper) + parish.age(w);
                case 22: return begin(21, parish, w, deeper) - 1000;
                case 23: return begin(20, parish, w, deeper) - anew(SIZE, parish, w, deeper);
                case 24: return 2 * begin(21, parish, w, deeper);
                default: return 0;
            }
        }

        private void leave(int body) {
            if (traced < TRACED) {
                traces[traced] = body;
                traced++;
            }
        }
    }
}
