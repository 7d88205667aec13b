/** Promises over time, checked on wires: what each call answers stands in the document, promise by promise. */
public final class PromiseTries {
    public static final int BAD = -1, STATE = -2, FULL = -3, NONE = -4;

    private static final int MOST_BYTES = 200;
    private static final int MOST_TICKS = 48;
    private static final int MOST_PROMISES = 4;
    private static final int MOST_LONG = 40;
    private static final int MOST_NESTED = 8;
    private static final int MOST_CELLS = 40;
    private static final int MOST_AT_ONCE = 20;
    private static final int MOST_TIMES = 9;
    private static final int IMAGES = 2;
    private static final int SHEETS = 4;
    private static final int LANES = 3;

    private static final int ALL_BITS = 256;
    private static final int WORDS = 4;
    private static final int WORD_BITS = 64;

    // Each of the nine levels (the outermost, and eight nested) holds a left choice and a left part; the innermost also
    // what is being read.
    private static final int STACK = 2 * (MOST_NESTED + 1) + 1;

    private static final int HERE = 0;
    private static final int NEXT = 1;

    private static final int OPEN = 0;
    private static final int PASSED = 1;
    private static final int FAILED = 2;
    private static final int EMPTY = 3;
    private static final int OFF = 4;

    private static final int MET = 1;
    private static final int BROKEN = 2;

    private static final int NULL = 1;
    private static final int CAST = 2;
    private static final int INDEX = 3;
    private static final int SIZE = 4;

    private static final int NO_SUCH_TOKEN = 1;
    private static final int CANNOT_STAND = 2;
    private static final int OUT_OF_BOUNDS = 3;
    private static final int TOO_MANY = 4;
    private static final int MATCHES_NONE = 5;
    private static final int TOO_LONG = 6;

    private static final int FAULT_BASE = -10;

    private final Reader reader = new Reader();
    private final Tape tape = reader.tape;
    private final Watch[] watches = new Watch[MOST_PROMISES];
    private final Trace trace = new Trace();
    private final Trace[] images = new Trace[IMAGES];
    private final boolean[] kept = new boolean[IMAGES];
    private final Sheet[] sheets = new Sheet[SHEETS];
    // Two rows that change places: a text with a fault must leave what was told as it was.
    private Pledge[] told = new Pledge[MOST_PROMISES];
    private Pledge[] spare = new Pledge[MOST_PROMISES];
    private int promises;
    private int latestFault;
    private int latestTear;

    public PromiseTries() {
        for (int p = 0; p < MOST_PROMISES; p++) {
            told[p] = new Pledge();
            spare[p] = new Pledge();
            watches[p] = new Watch();
        }
        for (int k = 0; k < IMAGES; k++) {
            images[k] = new Trace();
        }
        for (int k = 0; k < SHEETS; k++) {
            sheets[k] = new Sheet();
        }
    }

    // ---- the text

    public int feed(int c) {
        if (c < 0 || c > 127) {
            return BAD;
        }
        if (tape.length >= MOST_BYTES) {
            return FULL;
        }
        tape.bytes[tape.length] = (byte) c;
        tape.length++;
        return tape.length;
    }

    public int end(int n) {
        int had = tape.length;
        if (n < 0 || n > had) {
            return BAD;
        }
        tape.length = n;
        return had;
    }

    public int text() {
        int found = reader.readAll(spare);
        tape.length = 0;
        latestFault = tape.firstFault;
        if (found < 0) {
            return FAULT_BASE - tape.faultPlace;
        }
        Pledge[] before = told;
        told = spare;
        spare = before;
        promises = found;
        for (int k = 0; k < IMAGES; k++) {
            kept[k] = false;
        }
        watchAnew();
        return found;
    }

    public int fault() {
        return latestFault;
    }

    // ---- what is told

    public int rule(int what) {
        if (what < 0 || what > 7) {
            return BAD;
        }
        if (what == 0) {
            return promises;
        }
        if (what == 1) {
            return trace.length;
        }
        int sum = 0;
        for (int p = 0; p < promises; p++) {
            Watch watch = watchOf(p);
            sum += what == 7 ? watch.allDuties() : watch.howMany(what - 2);
        }
        return sum;
    }

    public int promise(int p, int what) {
        if (!isPromise(p)) {
            return BAD;
        }
        Pledge pledge = told[p];
        switch (what) {
            case 0: return pledge.kind;
            case 1: return pledge.hasOff ? 1 : 0;
            case 2: return pledge.ifSide.conditions;
            case 3: return pledge.thenSide.conditions;
            case 4: return pledge.ifSide.positions;
            case 5: return pledge.thenSide.positions;
            case 6: return pledge.ifSide.fewest;
            case 7: return pledge.thenSide.fewest;
            case 8: return pledge.ifSide.most;
            case 9: return pledge.thenSide.most;
            default: return BAD;
        }
    }

    public int fulfils(int p, int side, int e, int bits) {
        if (!isCondition(p, side, e) || !isBits(bits)) {
            return BAD;
        }
        boolean so = side == 2 ? isFulfilled(told[p].off, 0, bits)
                : isFulfilled(told[p].sideOf(side).truths, e, bits);
        return so ? 1 : 0;
    }

    public int fulfilled(int p, int side, int e) {
        if (!isCondition(p, side, e)) {
            return BAD;
        }
        return side == 2 ? howManyFulfil(told[p].off, 0) : howManyFulfil(told[p].sideOf(side).truths, e);
    }

    public int matches(int p, int side, int i, int j) {
        if (!isPromise(p) || !isSide(side) || i < 0 || i > trace.length || j < i - 1 || j >= trace.length) {
            return BAD;
        }
        Sequence sequence = told[p].sideOf(side);
        return sequence.hasEnded(sequence.walk(trace, i, j + 1)) ? 1 : 0;
    }

    public int might(int p, int side, int i) {
        if (!isPromise(p) || !isSide(side) || i < 0 || i > trace.length) {
            return BAD;
        }
        Sequence sequence = told[p].sideOf(side);
        return sequence.goesOn(sequence.walk(trace, i, trace.length)) ? 1 : 0;
    }

    // ---- the trace

    public int tick(int bits) {
        if (!isBits(bits)) {
            return BAD;
        }
        if (trace.length >= MOST_TICKS) {
            return FULL;
        }
        trace.add(bits);
        int failed = 0;
        for (int p = 0; p < promises; p++) {
            failed += watchOf(p).failedBy(trace.length - 1);
        }
        return failed;
    }

    public int bits(int t) {
        return isTick(t) ? trace.ticks[t] : BAD;
    }

    public int put(int t, int bits) {
        if (!isTick(t) || !isBits(bits)) {
            return BAD;
        }
        int had = trace.ticks[t];
        trace.ticks[t] = bits;
        watchAnew();
        return had;
    }

    public int keeps(int n) {
        int had = trace.length;
        if (n < 0 || n > had) {
            return BAD;
        }
        trace.length = n;
        watchAnew();
        return had;
    }

    public int draw(int seed, int n) {
        if (n < 1 || n > MOST_AT_ONCE) {
            return BAD;
        }
        if (trace.length + n > MOST_TICKS) {
            return FULL;
        }
        int now = seed;
        for (int i = 0; i < n; i++) {
            now = nextSeed(now);
            int one = got(now);
            now = nextSeed(now);
            trace.add(one & got(now));
        }
        return trace.length;
    }

    // ---- tries

    public int verdict(int p, int t) {
        return isTry(p, t) ? watchOf(p).verdicts[t] : BAD;
    }

    public int decided(int p, int t) {
        if (!isTry(p, t)) {
            return BAD;
        }
        Watch watch = watchOf(p);
        return watch.verdicts[t] == OPEN ? NONE : watch.decidedAt[t];
    }

    public int duties(int p, int t) {
        return isTry(p, t) ? Long.bitCount(watchOf(p).dutySets[t]) : BAD;
    }

    public int duty(int p, int t, int i, int what) {
        if (!isTry(p, t) || i < 0 || what < 0 || what > 2) {
            return BAD;
        }
        Watch watch = watchOf(p);
        int u = watch.dutyTick(t, i);
        if (u < 0) {
            return NONE;
        }
        if (what == 0) {
            return u;
        }
        int state = watch.dutyState(u);
        if (what == 1) {
            return state;
        }
        return state == OPEN ? NONE : watch.dutyAt[u];
    }

    public int tries(int p, int v) {
        return isPromise(p) && isVerdict(v) ? watchOf(p).howMany(v) : BAD;
    }

    public int first(int p, int v) {
        return isPromise(p) && isVerdict(v) ? watchOf(p).earliest(v) : BAD;
    }

    // ---- images, sheets

    public int keep(int k) {
        if (!isImage(k)) {
            return BAD;
        }
        int was = kept[k] ? 1 : 0;
        images[k].become(trace);
        kept[k] = true;
        return was;
    }

    public int back(int k) {
        if (!isImage(k)) {
            return BAD;
        }
        if (!kept[k]) {
            return STATE;
        }
        trace.become(images[k]);
        watchAnew();
        return trace.length;
    }

    public int sheet(int k, int lane, int n) {
        if (!isSheet(k) || !isLane(lane) || n > MOST_CELLS) {
            return BAD;
        }
        if (n < 0) {
            return FAULT_BASE - SIZE;
        }
        sheets[k].renew(lane, n);
        return 1;
    }

    public int lay(int k, int i, int v) {
        if (!isSheet(k)) {
            return BAD;
        }
        Sheet row = sheets[k];
        int tear = row.tearAt(row.lane, i);
        if (tear != 0) {
            return FAULT_BASE - tear;
        }
        row.setCell(i, v);
        return 1;
    }

    public int run(int k, int lane, int f, int n) {
        if (!isSheet(k) || !isLane(lane) || n < 0 || n > MOST_AT_ONCE) {
            return BAD;
        }
        latestTear = 0;
        Sheet row = sheets[k];
        int cell = f;
        for (int came = 0; came < n; came++) {
            if (trace.length >= MOST_TICKS) {
                return came;
            }
            latestTear = row.tearAt(lane, cell);
            if (latestTear != 0) {
                return came;
            }
            trace.add(row.cells[cell] & (ALL_BITS - 1));
            cell++;
        }
        return n;
    }

    public int torn() {
        return latestTear;
    }

    public int count(int what) {
        switch (what) {
            case 0: return howManyImages();
            case 1: return tape.length;
            case 2: return sheets[0].length < 0 ? NONE : sheets[0].length;
            default: return BAD;
        }
    }

    // ---- what several calls ask

    private boolean isPromise(int p) {
        return p >= 0 && p < promises;
    }

    private boolean isTick(int t) {
        return t >= 0 && t < trace.length;
    }

    private boolean isTry(int p, int t) {
        return isPromise(p) && isTick(t);
    }

    private boolean isCondition(int p, int side, int e) {
        if (!isPromise(p)) {
            return false;
        }
        if (side == 2) {
            return told[p].hasOff;
        }
        return isSide(side) && e >= 0 && e < told[p].sideOf(side).conditions;
    }

    private static boolean isBits(int bits) {
        return bits >= 0 && bits < ALL_BITS;
    }

    private static boolean isSide(int side) {
        return side == 0 || side == 1;
    }

    private static boolean isVerdict(int v) {
        return v >= OPEN && v <= OFF;
    }

    private static boolean isImage(int k) {
        return k >= 0 && k < IMAGES;
    }

    private static boolean isSheet(int k) {
        return k >= 0 && k < SHEETS;
    }

    private static boolean isLane(int lane) {
        return lane >= 0 && lane < LANES;
    }

    private static int nextSeed(int seed) {
        return seed * 1103515245 + 12345;
    }

    private static int got(int seed) {
        return (seed >>> 16) & (ALL_BITS - 1);
    }

    private int howManyImages() {
        int sum = 0;
        for (int k = 0; k < IMAGES; k++) {
            if (kept[k]) {
                sum++;
            }
        }
        return sum;
    }

    private Watch watchOf(int p) {
        Watch watch = watches[p];
        watch.catchUp(told[p], trace);
        return watch;
    }

    // Ticks that only come behind are taken in one by one; after any other change all are taken in anew.
    private void watchAnew() {
        for (int p = 0; p < MOST_PROMISES; p++) {
            watches[p].restart();
        }
    }

    private static boolean isFulfilled(long[] truths, int e, int bits) {
        return ((truths[e * WORDS + bits / WORD_BITS] >>> (bits % WORD_BITS)) & 1L) != 0;
    }

    private static int howManyFulfil(long[] truths, int e) {
        int sum = 0;
        for (int w = 0; w < WORDS; w++) {
            sum += Long.bitCount(truths[e * WORDS + w]);
        }
        return sum;
    }

    private static final class Trace {
        private final int[] ticks = new int[MOST_TICKS];
        private int length;

        void add(int bits) {
            if (length < MOST_TICKS) {
                ticks[length] = bits;
                length++;
            }
        }

        void become(Trace other) {
            System.arraycopy(other.ticks, 0, ticks, 0, other.length);
            length = other.length;
        }
    }

    private static final class Sheet {
        private final int[] cells = new int[MOST_CELLS];
        private int lane;
        // Below 0: nothing.
        private int length = -1;

        void renew(int ofLane, int n) {
            lane = ofLane;
            length = n;
            for (int i = 0; i < MOST_CELLS; i++) {
                cells[i] = 0;
            }
        }

        int tearAt(int asLane, int i) {
            if (length < 0) {
                return NULL;
            }
            if (asLane != lane) {
                return CAST;
            }
            return i < 0 || i >= length ? INDEX : 0;
        }

        void setCell(int i, int v) {
            switch (lane) {
                case 0: cells[i] = (byte) v; break;
                case 1: cells[i] = (char) v; break;
                default: cells[i] = v; break;
            }
        }
    }

    /** What one promise says. */
    private static final class Pledge {
        private final Sequence ifSide = new Sequence();
        private final Sequence thenSide = new Sequence();
        private final long[] off = new long[WORDS];
        private boolean hasOff;
        private int kind;

        Sequence sideOf(int side) {
            return side == 0 ? ifSide : thenSide;
        }

        boolean isPutOffBy(int bits) {
            return hasOff && isFulfilled(off, 0, bits);
        }
    }

    /**
     * A sequence as a machine of positions: 0 is its start, and each condition stands at one position or,
     * repeated, at several. At most 40 positions: a set of them is one long.
     */
    private static final class Sequence {
        private static final long START = 1L;

        private final long[] follows = new long[MOST_LONG + 1];
        private final long[] places = new long[MOST_LONG];
        private final long[] truths = new long[MOST_LONG * WORDS];
        private long ends;
        private long useful;
        private long onward;
        private int conditions;
        private int positions;
        private int fewest;
        private int most;
        private boolean tooLong;

        void clear() {
            conditions = 0;
            positions = 0;
            tooLong = false;
        }

        /** The set of the new condition's position, its truth being on top of the stack; none if there is no room. */
        long addCondition(TruthStack stack) {
            if (positions >= MOST_LONG || conditions >= MOST_LONG) {
                tooLong = true;
            }
            if (tooLong) {
                stack.drop();
                return 0;
            }
            stack.moveTop(truths, conditions);
            positions++;
            follows[positions] = 0;
            places[conditions] = 1L << positions;
            conditions++;
            return 1L << positions;
        }

        void link(long from, long to) {
            long rest = from;
            for (int q = 0; q <= positions && rest != 0; q++) {
                if ((rest & 1L) != 0) {
                    follows[q] |= to;
                }
                rest >>>= 1;
            }
        }

        /** The last positions, from low on, come again behind themselves, so that they are there n times. */
        void copyBlock(int low, int n) {
            int high = positions;
            int width = high - low + 1;
            if (high + width * (n - 1) > MOST_LONG) {
                tooLong = true;
                return;
            }
            long block = ((1L << width) - 1) << low;
            for (int k = 1; k < n; k++) {
                int shift = k * width;
                for (int q = low; q <= high; q++) {
                    follows[q + shift] = follows[q] << shift;
                }
            }
            for (int e = 0; e < conditions; e++) {
                long own = places[e] & block;
                for (int k = 1; k < n; k++) {
                    places[e] |= own << (k * width);
                }
            }
            positions = high + width * (n - 1);
        }

        // A position that can not be taken, or from which no end can be reached, is never entered: so a set of
        // positions tells at once whether anything to come can still match. Positions are followed by later ones
        // only, so that one pass from the last to the first is enough.
        void findUseful() {
            useful = 0;
            onward = 0;
            long fulfillable = START;
            for (int e = 0; e < conditions; e++) {
                if (howManyFulfil(truths, e) > 0) {
                    fulfillable |= places[e];
                }
            }
            for (int q = positions; q >= 0; q--) {
                long own = 1L << q;
                boolean leadsOn = (follows[q] & useful) != 0;
                if (leadsOn) {
                    onward |= own;
                }
                if ((fulfillable & own) != 0 && (leadsOn || (ends & own) != 0)) {
                    useful |= own;
                }
            }
        }

        /** The positions that a tick of such bits can be. */
        long openTo(int bits) {
            long open = 0;
            for (int e = 0; e < conditions; e++) {
                if (isFulfilled(truths, e, bits)) {
                    open |= places[e];
                }
            }
            return open & useful;
        }

        long after(long state, long open) {
            long to = 0;
            long rest = state;
            for (int q = 0; q <= positions && rest != 0; q++) {
                if ((rest & 1L) != 0) {
                    to |= follows[q];
                }
                rest >>>= 1;
            }
            return to & open;
        }

        long walk(Trace trace, int from, int to) {
            long state = START;
            for (int t = from; t < to && state != 0; t++) {
                state = after(state, openTo(trace.ticks[t]));
            }
            return state;
        }

        boolean hasEnded(long state) {
            return (state & ends) != 0;
        }

        boolean goesOn(long state) {
            return (state & onward) != 0;
        }
    }

    /** The tries of one promise by the first so many ticks, taken in one by one. */
    private static final class Watch {
        private final long[] ifStates = new long[MOST_TICKS];
        // Duties of all tries that begin behind the same tick u are one: they are held by u.
        private final long[] thenStates = new long[MOST_TICKS];
        private final int[] dutyAt = new int[MOST_TICKS];
        private final long[] dutySets = new long[MOST_TICKS];
        private final int[] verdicts = new int[MOST_TICKS];
        private final int[] decidedAt = new int[MOST_TICKS];
        private long met;
        private long broken;
        private int taken;

        void restart() {
            met = 0;
            broken = 0;
            taken = 0;
        }

        void catchUp(Pledge pledge, Trace trace) {
            while (taken < trace.length) {
                takeIn(pledge, trace.ticks[taken]);
                taken++;
            }
        }

        private void takeIn(Pledge pledge, int bits) {
            ifStates[taken] = Sequence.START;
            thenStates[taken] = 0;
            dutySets[taken] = 0;
            verdicts[taken] = OPEN;
            long thenOpen = pledge.thenSide.openTo(bits);
            moveDuties(pledge.thenSide, thenOpen);
            if (moveTries(pledge.ifSide, pledge.ifSide.openTo(bits))) {
                beginDuty(pledge, thenOpen);
            }
            judgeTries(pledge, pledge.isPutOffBy(bits));
        }

        private void moveDuties(Sequence thenSide, long open) {
            for (int u = 0; u < taken; u++) {
                if (thenStates[u] != 0) {
                    thenStates[u] = thenSide.after(thenStates[u], open);
                    settleDuty(thenSide, u);
                }
            }
        }

        /** Whether there is a try with a duty by the newest tick. */
        private boolean moveTries(Sequence ifSide, long open) {
            boolean any = false;
            for (int t = 0; t <= taken; t++) {
                if (ifStates[t] != 0) {
                    ifStates[t] = ifSide.after(ifStates[t], open);
                    if (ifSide.hasEnded(ifStates[t])) {
                        dutySets[t] |= 1L << taken;
                        any = true;
                    }
                }
            }
            return any;
        }

        private void beginDuty(Pledge pledge, long open) {
            Sequence thenSide = pledge.thenSide;
            thenStates[taken] = pledge.kind == NEXT ? Sequence.START : thenSide.after(Sequence.START, open);
            settleDuty(thenSide, taken);
        }

        private void settleDuty(Sequence thenSide, int u) {
            long state = thenStates[u];
            if (thenSide.hasEnded(state)) {
                met |= 1L << u;
            } else if (!thenSide.goesOn(state)) {
                broken |= 1L << u;
            } else {
                return;
            }
            dutyAt[u] = taken;
            thenStates[u] = 0;
        }

        private void judgeTries(Pledge pledge, boolean putOff) {
            for (int t = 0; t <= taken; t++) {
                if (verdicts[t] == OPEN) {
                    verdicts[t] = putOff ? OFF : judge(pledge.ifSide, t);
                    decidedAt[t] = taken;
                }
            }
        }

        private int judge(Sequence ifSide, int t) {
            if ((dutySets[t] & broken) != 0) {
                return FAILED;
            }
            if ((dutySets[t] & ~met) != 0 || ifSide.goesOn(ifStates[t])) {
                return OPEN;
            }
            return dutySets[t] != 0 ? PASSED : EMPTY;
        }

        int howMany(int v) {
            int sum = 0;
            for (int t = 0; t < taken; t++) {
                if (verdicts[t] == v) {
                    sum++;
                }
            }
            return sum;
        }

        int earliest(int v) {
            for (int t = 0; t < taken; t++) {
                if (verdicts[t] == v) {
                    return t;
                }
            }
            return NONE;
        }

        int failedBy(int tick) {
            int sum = 0;
            for (int t = 0; t < taken; t++) {
                if (verdicts[t] == FAILED && decidedAt[t] == tick) {
                    sum++;
                }
            }
            return sum;
        }

        int allDuties() {
            int sum = 0;
            for (int t = 0; t < taken; t++) {
                sum += Long.bitCount(dutySets[t]);
            }
            return sum;
        }

        /** The tick u of the i-th duty of a try; below 0 if there are not so many. */
        int dutyTick(int t, int i) {
            int before = 0;
            for (int u = t; u < taken; u++) {
                if (((dutySets[t] >>> u) & 1L) != 0) {
                    if (before == i) {
                        return u;
                    }
                    before++;
                }
            }
            return -1;
        }

        int dutyState(int u) {
            if (((met >>> u) & 1L) != 0) {
                return MET;
            }
            return ((broken >>> u) & 1L) != 0 ? BROKEN : OPEN;
        }
    }

    /** The tape, which is read token by token, with the first fault that was met. */
    private static final class Tape {
        // The other kinds of tokens are the signs themselves.
        private static final int END = 0;
        private static final int WIRE = 1;
        private static final int NUMBER = 2;
        private static final int NO_TOKEN = 3;

        private final byte[] bytes = new byte[MOST_BYTES];
        private int length;
        private int at;
        private int kind;
        private int value;
        private int place;
        private int firstFault;
        private int faultPlace;

        void begin() {
            at = 0;
            firstFault = 0;
            faultPlace = 0;
            advance();
        }

        /** Always false: what is read has ended. Only the first fault counts. */
        boolean refuse(int what) {
            if (firstFault == 0) {
                firstFault = what;
                faultPlace = place;
            }
            return false;
        }

        void advance() {
            while (at < length && bytes[at] == ' ') {
                at++;
            }
            place = at;
            if (at >= length) {
                kind = END;
                return;
            }
            int c = bytes[at];
            at++;
            if (c >= 'a' && c <= 'h') {
                kind = WIRE;
                value = c - 'a';
            } else if (isFigure(c)) {
                advanceNumber(c);
            } else if (isSign(c)) {
                kind = c;
            } else {
                kind = NO_TOKEN;
                refuse(NO_SUCH_TOKEN);
            }
        }

        private void advanceNumber(int firstFigure) {
            kind = NUMBER;
            value = firstFigure - '0';
            int figures = 1;
            while (at < length && isFigure(bytes[at])) {
                if (figures == 1) {
                    value = value * 10 + bytes[at] - '0';
                }
                figures++;
                at++;
            }
            if (figures > 2) {
                kind = NO_TOKEN;
                refuse(NO_SUCH_TOKEN);
            }
        }

        private static boolean isFigure(int c) {
            return c >= '0' && c <= '9';
        }

        private static boolean isSign(int c) {
            switch (c) {
                case '!': case '&': case '|': case '(': case ')': case '{': case '}':
                case ',': case '/': case '*': case '=': case '>': case '~': case ';':
                    return true;
                default:
                    return false;
            }
        }

        boolean beginsSequence() {
            return kind == WIRE || kind == '!' || kind == '(' || kind == '{';
        }
    }

    /** Conditions while they are read, each as the set of the bits (of 256) that fulfil it. */
    private static final class TruthStack {
        // Of the bits 0 to 63, those that have wire a, b, c, d, e, f.
        private static final long[] PATTERNS = {
            0xAAAAAAAAAAAAAAAAL, 0xCCCCCCCCCCCCCCCCL, 0xF0F0F0F0F0F0F0F0L,
            0xFF00FF00FF00FF00L, 0xFFFF0000FFFF0000L, 0xFFFFFFFF00000000L
        };

        private final long[] words = new long[STACK * WORDS];
        private int depth;

        void clear() {
            depth = 0;
        }

        void pushWire(int wire) {
            if (depth >= STACK || wire < 0) {
                return;
            }
            for (int w = 0; w < WORDS; w++) {
                words[depth * WORDS + w] = wordOfWire(wire, w);
            }
            depth++;
        }

        // The two highest wires are the same in all bits of a word.
        private static long wordOfWire(int wire, int w) {
            if (wire < PATTERNS.length) {
                return PATTERNS[wire];
            }
            return ((w >>> (wire - PATTERNS.length)) & 1) != 0 ? -1L : 0L;
        }

        void negate() {
            if (depth < 1) {
                return;
            }
            for (int w = 0; w < WORDS; w++) {
                words[(depth - 1) * WORDS + w] = ~words[(depth - 1) * WORDS + w];
            }
        }

        void joinTwo(boolean both) {
            if (depth < 2) {
                return;
            }
            depth--;
            for (int w = 0; w < WORDS; w++) {
                int left = (depth - 1) * WORDS + w;
                long right = words[depth * WORDS + w];
                words[left] = both ? words[left] & right : words[left] | right;
            }
        }

        void drop() {
            if (depth > 0) {
                depth--;
            }
        }

        void moveTop(long[] truths, int e) {
            if (depth < 1) {
                return;
            }
            depth--;
            for (int w = 0; w < WORDS; w++) {
                truths[e * WORDS + w] = words[depth * WORDS + w];
            }
        }
    }

    /** Makes a sequence out of its parts in the order in which they are read. */
    private static final class Builder {
        // Above 40 it is told only that it is too much; below, numbers are exact.
        private static final int CAP = 1000;

        private final long[] begins = new long[STACK];
        private final long[] ends = new long[STACK];
        private final int[] lows = new int[STACK];
        private final int[] fewest = new int[STACK];
        private final int[] most = new int[STACK];
        private int depth;
        // A sequence of its own until the first one is begun, so that there always is one.
        private Sequence made = new Sequence();

        void begin(Sequence toMake) {
            made = toMake;
            made.clear();
            depth = 0;
        }

        void condition(TruthStack stack) {
            long position = made.addCondition(stack);
            if (depth < STACK) {
                begins[depth] = position;
                ends[depth] = position;
                lows[depth] = made.positions;
                fewest[depth] = 1;
                most[depth] = 1;
                depth++;
            }
        }

        void chainTwo() {
            if (depth < 2) {
                return;
            }
            depth--;
            int left = depth - 1;
            made.link(ends[left], begins[depth]);
            if (fewest[left] == 0) {
                begins[left] |= begins[depth];
            }
            ends[left] = fewest[depth] == 0 ? ends[left] | ends[depth] : ends[depth];
            fewest[left] = Math.min(CAP, fewest[left] + fewest[depth]);
            most[left] = Math.min(CAP, most[left] + most[depth]);
        }

        void chooseOfTwo() {
            if (depth < 2) {
                return;
            }
            depth--;
            int left = depth - 1;
            begins[left] |= begins[depth];
            ends[left] |= ends[depth];
            fewest[left] = Math.min(fewest[left], fewest[depth]);
            most[left] = Math.max(most[left], most[depth]);
        }

        void repeat(int m, int n) {
            if (depth < 1) {
                return;
            }
            int top = depth - 1;
            int width = made.positions - lows[top] + 1;
            if (!made.tooLong) {
                made.copyBlock(lows[top], n);
            }
            if (!made.tooLong) {
                chainCopies(top, width, m, n);
            }
            fewest[top] = Math.min(CAP, fewest[top] * m);
            most[top] = Math.min(CAP, most[top] * n);
        }

        // The copies that match any tick can always be the first ones: all begin with the first copy, and may end with
        // the m-th or a later one; with any, if the others can match no tick.
        private void chainCopies(int top, int width, int m, int n) {
            long begin = begins[top];
            long end = ends[top];
            int least = fewest[top] == 0 ? 1 : Math.max(1, m);
            ends[top] = 0;
            for (int k = 0; k < n; k++) {
                int shift = k * width;
                if (k > 0) {
                    made.link(end << (shift - width), begin << shift);
                }
                if (k >= least - 1) {
                    ends[top] |= end << shift;
                }
            }
        }

        void finish() {
            if (depth < 1) {
                return;
            }
            made.follows[0] = begins[0];
            made.ends = ends[0];
            made.fewest = fewest[0];
            made.most = most[0];
            if (!made.tooLong) {
                made.findUseful();
            }
        }
    }

    /** Reads a text by its grammar; each method begins at the token that its part has to begin with. */
    private static final class Reader {
        private final Tape tape = new Tape();
        private final TruthStack stack = new TruthStack();
        private final Builder builder = new Builder();

        /** How many promises were read; below 0 by a fault. */
        int readAll(Pledge[] into) {
            tape.begin();
            stack.clear();
            for (int p = 0; p <= MOST_PROMISES; p++) {
                if (tape.kind == Tape.END) {
                    return p;
                }
                if (!tape.beginsSequence()) {
                    tape.refuse(CANNOT_STAND);
                    return -1;
                }
                if (p >= into.length) {
                    tape.refuse(TOO_MANY);
                    return -1;
                }
                if (!readPromise(into[p])) {
                    return -1;
                }
            }
            return -1;
        }

        private boolean readPromise(Pledge pledge) {
            builder.begin(pledge.ifSide);
            if (!readChoice(0)) {
                return false;
            }
            builder.finish();
            if (tape.kind != '=' && tape.kind != '>') {
                return tape.refuse(CANNOT_STAND);
            }
            pledge.kind = tape.kind == '>' ? NEXT : HERE;
            tape.advance();
            builder.begin(pledge.thenSide);
            if (!readChoice(0)) {
                return false;
            }
            builder.finish();
            if (!readOff(pledge)) {
                return false;
            }
            if (tape.kind != ';') {
                return tape.refuse(CANNOT_STAND);
            }
            if (pledge.ifSide.fewest == 0 || pledge.thenSide.fewest == 0) {
                return tape.refuse(MATCHES_NONE);
            }
            if (pledge.ifSide.tooLong || pledge.thenSide.tooLong) {
                return tape.refuse(TOO_LONG);
            }
            tape.advance();
            return true;
        }

        private boolean readOff(Pledge pledge) {
            pledge.hasOff = tape.kind == '~';
            if (!pledge.hasOff) {
                return true;
            }
            tape.advance();
            if (!readAnyOf(0)) {
                return false;
            }
            stack.moveTop(pledge.off, 0);
            return true;
        }

        private boolean readChoice(int nested) {
            if (!readChain(nested)) {
                return false;
            }
            for (int i = 0; i < MOST_BYTES && tape.kind == '/'; i++) {
                tape.advance();
                if (!readChain(nested)) {
                    return false;
                }
                builder.chooseOfTwo();
            }
            return true;
        }

        private boolean readChain(int nested) {
            if (!readRepeated(nested)) {
                return false;
            }
            for (int i = 0; i < MOST_BYTES && tape.kind == ','; i++) {
                tape.advance();
                if (!readRepeated(nested)) {
                    return false;
                }
                builder.chainTwo();
            }
            return true;
        }

        private boolean readRepeated(int nested) {
            if (!readPart(nested)) {
                return false;
            }
            if (tape.kind != '*') {
                return true;
            }
            tape.advance();
            int m = tape.value;
            if (!readNumber(0)) {
                return false;
            }
            int n = tape.value;
            if (!readNumber(Math.max(1, m))) {
                return false;
            }
            builder.repeat(m, n);
            return true;
        }

        private boolean readNumber(int least) {
            if (tape.kind != Tape.NUMBER) {
                return tape.refuse(CANNOT_STAND);
            }
            if (tape.value < least || tape.value > MOST_TIMES) {
                return tape.refuse(OUT_OF_BOUNDS);
            }
            tape.advance();
            return true;
        }

        private boolean readPart(int nested) {
            if (tape.kind != '{') {
                if (!readCondition(nested)) {
                    return false;
                }
                builder.condition(stack);
                return true;
            }
            if (nested >= MOST_NESTED) {
                return tape.refuse(TOO_MANY);
            }
            tape.advance();
            if (!readChoice(nested + 1)) {
                return false;
            }
            if (tape.kind != '}') {
                return tape.refuse(CANNOT_STAND);
            }
            tape.advance();
            return true;
        }

        private boolean readCondition(int nested) {
            boolean negated = false;
            for (int i = 0; i < MOST_BYTES && tape.kind == '!'; i++) {
                negated = !negated;
                tape.advance();
            }
            if (!readPlain(nested)) {
                return false;
            }
            if (negated) {
                stack.negate();
            }
            return true;
        }

        private boolean readPlain(int nested) {
            if (tape.kind == Tape.WIRE) {
                stack.pushWire(tape.value);
                tape.advance();
                return true;
            }
            if (tape.kind != '(') {
                return tape.refuse(CANNOT_STAND);
            }
            if (nested >= MOST_NESTED) {
                return tape.refuse(TOO_MANY);
            }
            tape.advance();
            if (!readAnyOf(nested + 1)) {
                return false;
            }
            if (tape.kind != ')') {
                return tape.refuse(CANNOT_STAND);
            }
            tape.advance();
            return true;
        }

        private boolean readAnyOf(int nested) {
            if (!readAllOf(nested)) {
                return false;
            }
            for (int i = 0; i < MOST_BYTES && tape.kind == '|'; i++) {
                tape.advance();
                if (!readAllOf(nested)) {
                    return false;
                }
                stack.joinTwo(false);
            }
            return true;
        }

        private boolean readAllOf(int nested) {
            if (!readCondition(nested)) {
                return false;
            }
            for (int i = 0; i < MOST_BYTES && tape.kind == '&'; i++) {
                tape.advance();
                if (!readCondition(nested)) {
                    return false;
                }
                stack.joinTwo(true);
            }
            return true;
        }
    }
}
