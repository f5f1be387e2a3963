/** Clocks of the sky: stars that turn, timed by several instruments for years with gaps. */
public final class SkyClocks {
    public static final int BAD = -1, NO = -2, FULL = -3, NONE = -4, SPENT = -5;

    private static final int STARS = 4, ARRIVALS = 24, INSTRUMENTS = 3, VERSIONS = 2, BINS = 11;
    private static final int LAST_AT = 1000000, LAST_TIME = 2000000, GREATEST_ERR = 1000;
    private static final int LEAST_PERIOD = 100000, GREATEST_PERIOD = 100000000;
    private static final int LAST_TURN = 10000;
    private static final long MILLION = 1000000L;

    private static final int AT = 0, ERR = 1, INSTRUMENT = 2, KNOWN = 3, CORRECTED = 4;

    private static final int BAD_AT = -100000, NO_AT = -100002;
    private static final int BAD_RESIDUE = -1000000000, NO_RESIDUE = -1000000002;
    private static final int BAD_BETWEEN = -10000000, NO_BETWEEN = -10000002;
    private static final long BAD_LONG = -1000000000000000000L, NO_LONG = -1000000000000000002L;

    private final Tables tables = new Tables();
    private final Star[] stars = new Star[STARS];
    private final Turns[] clocks = new Turns[STARS];
    private final Text text = new Text();
    private Model draft = new Model();
    private final Carried carried = new Carried();
    private final int[] residues = new int[ARRIVALS];
    private final int[] others = new int[ARRIVALS];
    private final int[] turnNumbers = new int[ARRIVALS];
    private final Gaps gaps = new Gaps();

    public SkyClocks() {
        for (int s = 0; s < STARS; s++) {
            stars[s] = new Star();
            clocks[s] = new Turns();
        }
    }

    // ---- arrivals

    public int arrival(int star, int at, int err, int instrument, int known) {
        if (!isStar(star) || !within(at, 0, LAST_AT) || !within(err, 0, GREATEST_ERR)
                || !isInstrument(instrument) || !within(known, 0, LAST_TIME)) {
            return BAD;
        }
        if (stars[star].isFull()) {
            return FULL;
        }
        return stars[star].put(at, err, instrument, known, tables.asOf);
    }

    public int clear(int star) {
        return isStar(star) ? stars[star].dropAll() : BAD;
    }

    public int offset(int instrument, int v) {
        if (!isInstrument(instrument) || !within(v, -1000, 1000)) {
            return BAD_AT;
        }
        int was = tables.offsets[instrument];
        tables.offsets[instrument] = v;
        return was;
    }

    public int shift(int version, int bin, int v) {
        if (!within(version, 0, VERSIONS - 1) || !within(bin, 0, BINS - 1) || !within(v, -500, 500)) {
            return BAD_AT;
        }
        int was = tables.shifts[version][bin];
        tables.shifts[version][bin] = v;
        return was;
    }

    public int rule(int what, int v) {
        if (what == 0 && within(v, 0, VERSIONS - 1)) {
            int was = tables.version;
            tables.version = v;
            return was;
        }
        if (what == 1 && within(v, 0, LAST_TIME)) {
            int was = tables.asOf;
            tables.asOf = v;
            seeAll();
            return was;
        }
        return BAD;
    }

    public int at(int star, int k, int what) {
        if (!isStar(star) || !isPlace(k) || !within(what, AT, CORRECTED)) {
            return BAD_AT;
        }
        if (k >= stars[star].seen) {
            return NO_AT;
        }
        return what == CORRECTED ? corrected(star, k, tables.version) : stars[star].value(k, what);
    }

    public int many(int star) {
        return isStar(star) ? stars[star].seen : BAD;
    }

    // ---- texts, models

    public int write(int n, long v) {
        if (!within(n, 1, 8)) {
            return BAD;
        }
        return text.hasRoom(n) ? text.append(n, v) : FULL;
    }

    public int wipe() {
        return text.empty();
    }

    public int fault() {
        return text.read(draft);
    }

    public int model(int star) {
        if (!isStar(star)) {
            return BAD;
        }
        if (text.read(draft) != NONE) {
            return NO;
        }
        int items = draft.items;
        draft = clocks[star].exchange(draft);
        return items;
    }

    public long comes(int star, int n) {
        if (!isStar(star) || !within(n, 0, LAST_TURN)) {
            return BAD;
        }
        return n < clocks[star].turns ? clocks[star].comesAt(n) : NO;
    }

    public int residue(int star, int k) {
        if (!isStar(star) || !isPlace(k)) {
            return BAD_RESIDUE;
        }
        return hasResidue(star, k) ? residueBy(star, k, tables.version) : NO_RESIDUE;
    }

    public int turn(int star, int k) {
        if (!isStar(star) || !isPlace(k)) {
            return BAD;
        }
        return hasResidue(star, k) ? turnOf(star, k) : NO;
    }

    // ---- ways

    public int ways(int star, int low, int high) {
        if (!isStar(star) || !within(low, LEAST_PERIOD, GREATEST_PERIOD)
                || !within(high, LEAST_PERIOD, GREATEST_PERIOD) || low > high) {
            return BAD;
        }
        int n = stars[star].seen;
        if (n < 2) {
            return NO;
        }
        carried.begin(n);
        for (int k = 0; k < n; k++) {
            carried.put(k, corrected(star, k, tables.version), stars[star].value(k, ERR));
        }
        return carried.seek(low, high);
    }

    public int way(int i, int k) {
        if (i < 0 || !isPlace(k)) {
            return BAD;
        }
        if (!carried.stands() || k >= carried.arrivals) {
            return NO;
        }
        return i < carried.found ? carried.countOf(i, k) : NONE;
    }

    public int sure(int k) {
        if (!isPlace(k)) {
            return BAD;
        }
        if (!carried.stands() || k >= carried.arrivals) {
            return NO;
        }
        return carried.oneCount(k);
    }

    public long fit(int i, int what) {
        if (i < 0 || !within(what, 0, 4)) {
            return BAD_LONG;
        }
        if (!carried.stands() || i >= carried.found) {
            return NO_LONG;
        }
        return carried.fitted(i, what);
    }

    public int left(int t, int e) {
        if (!within(t, 0, LAST_TIME) || !within(e, 0, GREATEST_ERR)) {
            return BAD;
        }
        return carried.canLook(t) ? carried.goOn(t, e) : NO;
    }

    public int look(int t, int step, int n, int e) {
        if (!within(t, 0, LAST_TIME) || !within(step, 1, 100000) || !within(n, 1, 20)
                || !within(e, 0, GREATEST_ERR) || t + step * (n - 1) > LAST_TIME) {
            return BAD;
        }
        return carried.canLook(t) ? carried.bestLook(t, step, n, e) : NO;
    }

    // ---- slips, hums

    public int slip(int star) {
        if (!isStar(star)) {
            return BAD;
        }
        int n = residuesOf(star, residues);
        return n < Slips.FEWEST ? NO : Slips.placeOf(residues, n);
    }

    public int falseShare(int star) {
        if (!isStar(star)) {
            return BAD;
        }
        int n = residuesOf(star, residues);
        return within(n, Slips.FEWEST, Slips.MOST_TURNED) ? Slips.asGreatRows(residues, n) : NO;
    }

    public long hum(int a, int b) {
        if (!isStar(a) || !isStar(b) || a == b) {
            return BAD_LONG;
        }
        int n = commonResidues(a, b);
        return n < Hums.FEWEST ? NO_LONG : Hums.products(residues, others, n);
    }

    public int shuffled(int a, int b) {
        if (!isStar(a) || !isStar(b) || a == b) {
            return BAD;
        }
        int n = commonResidues(a, b);
        return n < Hums.FEWEST ? NO : Hums.asGreatOrders(residues, others, n);
    }

    public int between(int i, int j) {
        if (!isInstrument(i) || !isInstrument(j) || i == j) {
            return BAD_BETWEEN;
        }
        return middleGap(i, j);
    }

    public int loop(int i, int j, int k) {
        if (!isInstrument(i) || !isInstrument(j) || !isInstrument(k) || i == j || j == k || i == k) {
            return BAD_BETWEEN;
        }
        int first = middleGap(i, j);
        int second = middleGap(j, k);
        int whole = middleGap(i, k);
        if (first == NO_BETWEEN || second == NO_BETWEEN || whole == NO_BETWEEN) {
            return NO_BETWEEN;
        }
        return first + second - whole;
    }

    public long moved(int star) {
        if (!isStar(star)) {
            return BAD;
        }
        if (!clocks[star].stands()) {
            return NO;
        }
        long sum = 0;
        for (int k = 0; k < stars[star].seen; k++) {
            sum += Math.abs(residueBy(star, k, 1) - residueBy(star, k, 0));
        }
        return sum;
    }

    public int alarm(int star) {
        if (!isStar(star)) {
            return BAD;
        }
        if (!clocks[star].stands()) {
            return NO;
        }
        int first = NONE;
        for (int k = 0; k < stars[star].seen; k++) {
            boolean sooner = first == NONE || stars[star].value(k, KNOWN) < stars[star].value(first, KNOWN);
            if (sooner && isLoud(star, k)) {
                first = k;
            }
        }
        return first;
    }

    public int count(int what) {
        switch (what) {
            case 0: return countingArrivals();
            case 1: return standingModels();
            case 2: return text.length;
            case 3: return carried.found;
            default: return BAD;
        }
    }

    // ---- what the calls share

    private static boolean within(int v, int low, int high) {
        return v >= low && v <= high;
    }

    private static boolean isStar(int star) {
        return within(star, 0, STARS - 1);
    }

    private static boolean isInstrument(int instrument) {
        return within(instrument, 0, INSTRUMENTS - 1);
    }

    private static boolean isPlace(int k) {
        return within(k, 0, ARRIVALS - 1);
    }

    private void seeAll() {
        for (int s = 0; s < STARS; s++) {
            stars[s].see(tables.asOf);
        }
    }

    private int corrected(int star, int k, int version) {
        return tables.correct(stars[star].value(k, AT), stars[star].value(k, INSTRUMENT), version);
    }

    private boolean hasResidue(int star, int k) {
        return clocks[star].stands() && k < stars[star].seen;
    }

    private int residueBy(int star, int k, int version) {
        return clocks[star].residueAt(corrected(star, k, version));
    }

    private int turnOf(int star, int k) {
        return clocks[star].nearest(corrected(star, k, tables.version) * MILLION);
    }

    /** Puts the RESIDUES of a STAR into a row: how many; of a STAR without MODEL none. */
    private int residuesOf(int star, int[] row) {
        if (!clocks[star].stands()) {
            return 0;
        }
        int n = stars[star].seen;
        for (int k = 0; k < n; k++) {
            row[k] = residueBy(star, k, tables.version);
        }
        return n;
    }

    private int commonResidues(int a, int b) {
        int both = Math.min(residuesOf(a, residues), residuesOf(b, others));
        return Math.min(both, Hums.MOST);
    }

    private boolean isLoud(int star, int k) {
        return Math.abs(residueBy(star, k, tables.version)) > 3 * stars[star].value(k, ERR);
    }

    private int middleGap(int i, int j) {
        gaps.empty();
        for (int s = 0; s < STARS; s++) {
            if (clocks[s].stands()) {
                gatherGaps(s, i, j);
            }
        }
        return gaps.many == 0 ? NO_BETWEEN : gaps.middle();
    }

    private void gatherGaps(int s, int i, int j) {
        Star star = stars[s];
        for (int k = 0; k < star.seen; k++) {
            turnNumbers[k] = turnOf(s, k);
        }
        for (int k = 0; k < star.seen; k++) {
            for (int l = 0; l < star.seen; l++) {
                if (star.value(k, INSTRUMENT) == i && star.value(l, INSTRUMENT) == j
                        && turnNumbers[k] == turnNumbers[l]) {
                    gaps.put(star.value(k, AT) - star.value(l, AT));
                }
            }
        }
    }

    private int countingArrivals() {
        int sum = 0;
        for (int s = 0; s < STARS; s++) {
            sum += stars[s].seen;
        }
        return sum;
    }

    private int standingModels() {
        int sum = 0;
        for (int s = 0; s < STARS; s++) {
            if (clocks[s].stands()) {
                sum++;
            }
        }
        return sum;
    }

    /** The OFFSETS of INSTRUMENTS, the SHIFTS of VERSIONS, and the rules. */
    private static final class Tables {
        private static final int BIN = 100000;

        private final int[] offsets = new int[INSTRUMENTS];
        private final int[][] shifts = new int[VERSIONS][BINS];
        private int version;
        private int asOf = LAST_TIME;

        int correct(int at, int instrument, int byVersion) {
            return at - offsets[instrument] + shifts[byVersion][at / BIN];
        }
    }

    /** The ARRIVALS of a STAR in their order, and the places of those that count. */
    private static final class Star {
        private static final int VALUES = 4;

        private final int[] values = new int[ARRIVALS * VALUES];
        private final int[] places = new int[ARRIVALS];
        private int told;
        private int seen;

        boolean isFull() {
            return told >= ARRIVALS;
        }

        int put(int at, int err, int instrument, int known, int asOf) {
            int from = placeBehind(at) * VALUES;
            System.arraycopy(values, from, values, from + VALUES, told * VALUES - from);
            values[from + AT] = at;
            values[from + ERR] = err;
            values[from + INSTRUMENT] = instrument;
            values[from + KNOWN] = known;
            told++;
            see(asOf);
            return told;
        }

        private int placeBehind(int at) {
            int place = told;
            while (place > 0 && values[(place - 1) * VALUES + AT] > at) {
                place--;
            }
            return place;
        }

        int dropAll() {
            int was = told;
            told = 0;
            seen = 0;
            return was;
        }

        void see(int asOf) {
            seen = 0;
            for (int i = 0; i < told; i++) {
                if (values[i * VALUES + KNOWN] <= asOf) {
                    places[seen] = i;
                    seen++;
                }
            }
        }

        /** A value of ARRIVAL k of those that count. */
        int value(int k, int what) {
            return values[places[k] * VALUES + what];
        }
    }

    /** THE TEXT, and the reading of it. */
    private static final class Text {
        private static final int MOST = 200, MOST_NUMBERS = 5, MOST_FIGURES = 9, END = -1;

        private final int[] bytes = new int[MOST];
        private int length;
        private int place;
        private final int[] numbers = new int[MOST_NUMBERS];

        boolean hasRoom(int n) {
            return length + n <= MOST;
        }

        int append(int n, long v) {
            for (int i = n - 1; i >= 0; i--) {
                bytes[length] = (int) (v >>> (8 * i)) & 255;
                length++;
            }
            return length;
        }

        int empty() {
            int was = length;
            length = 0;
            return was;
        }

        /** Reads all ITEMS into a MODEL: FAULT, or NONE. */
        int read(Model model) {
            model.empty();
            place = 0;
            for (int item = 0; item < MOST && place < length; item++) {
                int begin = place;
                if (!readItem(model)) {
                    return begin;
                }
            }
            return model.items == 0 ? 0 : NONE;
        }

        private boolean readItem(Model model) {
            int letter = nextByte();
            int wanted = numbersOf(letter);
            for (int i = 0; i < wanted; i++) {
                if (!readNumber(i) || nextByte() != (i < wanted - 1 ? ',' : ';')) {
                    return false;
                }
            }
            return wanted > 0 && model.put(letter, numbers);
        }

        private static int numbersOf(int letter) {
            switch (letter) {
                case 'p': case 'z': case 'd': return 1;
                case 's': return 2;
                case 'c': return 5;
                default: return 0;
            }
        }

        private boolean readNumber(int i) {
            boolean below = peek() == '-';
            if (below) {
                place++;
            }
            int number = 0;
            int figures = 0;
            while (figures < MOST_FIGURES && isFigure(peek())) {
                number = 10 * number + nextByte() - '0';
                figures++;
            }
            numbers[i] = below ? -number : number;
            return figures > 0;
        }

        private static boolean isFigure(int b) {
            return b >= '0' && b <= '9';
        }

        private int peek() {
            return place < length ? bytes[place] : END;
        }

        private int nextByte() {
            int b = peek();
            place++;
            return b;
        }
    }

    /** What a TEXT tells of how a star turns. */
    private static final class Model {
        private static final int MOST_SLIPS = 3, MOST_COMPANIONS = 2, QUARTERS = 4;
        private static final int LEAST_CYCLE = 4, GREATEST_CYCLE = 1000;
        private static final int GREATEST_LATE = 50000;

        private int items;
        private int period;
        private int zero;
        private boolean hasZero;
        private int drift;
        private boolean hasDrift;
        private int slips;
        private final int[] slipTimes = new int[MOST_SLIPS];
        private final int[] slipSizes = new int[MOST_SLIPS];
        private int companions;
        private final int[] cycles = new int[MOST_COMPANIONS];
        private final int[] lates = new int[MOST_COMPANIONS * QUARTERS];

        void empty() {
            items = 0;
            period = 0;
            zero = 0;
            hasZero = false;
            drift = 0;
            hasDrift = false;
            slips = 0;
            companions = 0;
        }

        /** Takes an ITEM; false: it is not as told. */
        boolean put(int letter, int[] v) {
            boolean isFirst = items == 0;
            if (isFirst != (letter == 'p') || !taken(letter, v)) {
                return false;
            }
            items++;
            return true;
        }

        private boolean taken(int letter, int[] v) {
            switch (letter) {
                case 'p': return putPeriod(v[0]);
                case 'z': return putZero(v[0]);
                case 'd': return putDrift(v[0]);
                case 's': return putSlip(v[0], v[1]);
                case 'c': return putCompanion(v);
                default: return false;
            }
        }

        private boolean putPeriod(int v) {
            period = v;
            return within(v, LEAST_PERIOD, GREATEST_PERIOD);
        }

        private boolean putZero(int v) {
            if (hasZero || !within(v, 0, LAST_AT)) {
                return false;
            }
            hasZero = true;
            zero = v;
            return true;
        }

        private boolean putDrift(int v) {
            if (hasDrift || !within(v, -100000, 100000)) {
                return false;
            }
            hasDrift = true;
            drift = v;
            return true;
        }

        private boolean putSlip(int time, int size) {
            if (slips >= MOST_SLIPS || !within(time, 0, LAST_AT) || !isLate(size)) {
                return false;
            }
            slipTimes[slips] = time;
            slipSizes[slips] = size;
            slips++;
            return true;
        }

        private boolean putCompanion(int[] v) {
            if (companions >= MOST_COMPANIONS || !within(v[0], LEAST_CYCLE, GREATEST_CYCLE)) {
                return false;
            }
            for (int q = 0; q < QUARTERS; q++) {
                if (!isLate(v[q + 1])) {
                    return false;
                }
                lates[companions * QUARTERS + q] = v[q + 1];
            }
            cycles[companions] = v[0];
            companions++;
            return true;
        }

        private static boolean isLate(int v) {
            return within(v, -GREATEST_LATE, GREATEST_LATE);
        }

        /** How far behind turn n, which begins where told, the next one begins, in millionths. */
        long lengthOf(int n, long begin) {
            long length = 1000L * period + (long) n * drift;
            for (int i = 0; i < slips; i++) {
                if (slipTimes[i] * MILLION <= begin) {
                    length += 1000L * slipSizes[i];
                }
            }
            return Math.max(length, MILLION);
        }

        /** How much later than it begins turn n comes, in millionths. */
        long lateOf(int n) {
            long late = 0;
            for (int i = 0; i < companions; i++) {
                int cycle = cycles[i];
                if (cycle > 0) {
                    int quarter = QUARTERS * (n % cycle) / cycle;
                    late += 1000L * lates[i * QUARTERS + quarter];
                }
            }
            return late;
        }
    }

    /** Where the turns of a STAR's MODEL begin. */
    private static final class Turns {
        // COMPANIONS bring no turn further from where it begins than all of them at their greatest
        private static final long REACH = 1000L * Model.MOST_COMPANIONS * Model.GREATEST_LATE;

        private final long[] begins = new long[LAST_TURN + 1];
        private Model model = new Model();
        private int turns;

        boolean stands() {
            return turns > 0;
        }

        /** Takes a MODEL on: the one that stood, whose rows are free then. */
        Model exchange(Model taken) {
            Model was = model;
            model = taken;
            begins[0] = taken.zero * MILLION;
            turns = 1;
            while (turns <= LAST_TURN) {
                long begin = begins[turns - 1] + taken.lengthOf(turns - 1, begins[turns - 1]);
                if (begin > LAST_TIME * MILLION) {
                    break;
                }
                begins[turns] = begin;
                turns++;
            }
            return was;
        }

        long comesAt(int n) {
            return begins[n] + model.lateOf(n);
        }

        int residueAt(int time) {
            long exact = time * MILLION;
            return (int) ((exact - comesAt(nearest(exact))) / MILLION);
        }

        int nearest(long time) {
            int behind = firstFrom(time);
            int best = 0;
            long gap = Long.MAX_VALUE;
            for (int n = behind - 1; n >= 0 && time - begins[n] - REACH <= gap; n--) {
                long off = Math.abs(comesAt(n) - time);
                if (off <= gap) {
                    gap = off;
                    best = n;
                }
            }
            for (int n = behind; n < turns && begins[n] - time - REACH <= gap; n++) {
                long off = Math.abs(comesAt(n) - time);
                if (off < gap) {
                    gap = off;
                    best = n;
                }
            }
            return best;
        }

        /** The first turn that begins at a time or behind it; how many there are, if none does. */
        private int firstFrom(long time) {
            int low = 0;
            int high = turns;
            for (int step = 0; step < 32 && low < high; step++) {
                int mid = (low + high) / 2;
                if (begins[mid] < time) {
                    low = mid + 1;
                } else {
                    high = mid;
                }
            }
            return low;
        }
    }

    /** Fractions of whole numbers; what is below is above 0 in all that come here. */
    private static final class Fractions {
        static long floor(long above, long below) {
            return Math.floorDiv(above, Math.max(below, 1));
        }

        static long ceiling(long above, long below) {
            return -Math.floorDiv(-above, Math.max(below, 1));
        }

        /** Compares a / b with c / d, a and c not below 0: by wholes first, for a * d may be too great. */
        static boolean isAtLeast(long a, long b, long c, long d) {
            long whole = floor(a, b);
            long otherWhole = floor(c, d);
            if (whole != otherWhole) {
                return whole > otherWhole;
            }
            return (a - whole * b) * d >= (c - otherWhole * d) * b;
        }

        static long commonDivisor(long a, long b) {
            long greater = Math.abs(a);
            long lesser = Math.abs(b);
            for (int step = 0; step < 200 && lesser != 0; step++) {
                long rest = greater % lesser;
                greater = lesser;
                lesser = rest;
            }
            return Math.max(greater, 1);
        }
    }

    /** PERIODS from a fraction to a fraction, both above 0. */
    private static final class Periods {
        private long lowAbove, lowBelow, highAbove, highBelow;

        void span(int low, int high) {
            lowAbove = low;
            lowBelow = 1;
            highAbove = high;
            highBelow = 1;
        }

        void copy(Periods from) {
            lowAbove = from.lowAbove;
            lowBelow = from.lowBelow;
            highAbove = from.highAbove;
            highBelow = from.highBelow;
        }

        /** The least count that times some PERIOD here is low at least. */
        long leastCount(long low) {
            return Fractions.ceiling(low * highBelow, highAbove);
        }

        /** The greatest count that times some PERIOD here is high at most. */
        long greatestCount(long high) {
            return Fractions.floor(high * lowBelow, lowAbove);
        }

        /** Those of wide that times a count are from low to high. */
        void narrow(Periods wide, long low, long high, long count) {
            copy(wide);
            if (low * lowBelow > lowAbove * count) {
                lowAbove = low;
                lowBelow = count;
            }
            if (high * highBelow < highAbove * count) {
                highAbove = high;
                highBelow = count;
            }
        }
    }

    /** Turn counts carried over the gaps: the WAYS of the latest ways(), with the ARRIVALS as they were then. */
    private static final class Carried {
        private static final int MOST_WAYS = 500, MOST_TRIED = 20000, MOST_STEPS = 1000000;

        private boolean asked;
        private boolean spent;
        private int arrivals;
        private int found;
        private int tried;
        private final int[] times = new int[ARRIVALS];
        private final int[] errs = new int[ARRIVALS];
        private final int[] row = new int[ARRIVALS];
        private final long[] nextCounts = new long[ARRIVALS];
        private final long[] lastCounts = new long[ARRIVALS];
        private final Periods[] allowed = new Periods[ARRIVALS];
        private final int[] counts = new int[MOST_WAYS * ARRIVALS];
        private final Periods[] periods = new Periods[MOST_WAYS];

        Carried() {
            for (int k = 0; k < ARRIVALS; k++) {
                allowed[k] = new Periods();
            }
            for (int i = 0; i < MOST_WAYS; i++) {
                periods[i] = new Periods();
            }
        }

        boolean stands() {
            return asked && !spent;
        }

        void begin(int n) {
            asked = true;
            spent = false;
            arrivals = n;
            found = 0;
            tried = 0;
        }

        void put(int k, int time, int err) {
            times[k] = time;
            errs[k] = err;
        }

        int seek(int low, int high) {
            row[0] = 0;
            allowed[0].span(low, high);
            int k = 1;
            open(k);
            for (int step = 0; step < MOST_STEPS && k > 0 && !spent; step++) {
                if (nextCounts[k] > lastCounts[k]) {
                    k--;
                } else if (tryNext(k)) {
                    if (k < arrivals - 1) {
                        k++;
                        open(k);
                    } else {
                        keep();
                    }
                }
            }
            if (spent) {
                found = 0;
                return SPENT;
            }
            return found;
        }

        /** Finds the counts of ARRIVAL k that go with the row ahead of it. */
        private void open(int k) {
            long low = lowest(times[k], errs[k]);
            long high = highest(times[k], errs[k]);
            nextCounts[k] = Math.max(row[k - 1] + 1L, allowed[k - 1].leastCount(low));
            lastCounts[k] = allowed[k - 1].greatestCount(high);
        }

        private boolean tryNext(int k) {
            tried++;
            if (tried > MOST_TRIED) {
                spent = true;
                return false;
            }
            row[k] = (int) nextCounts[k];
            nextCounts[k]++;
            allowed[k].narrow(allowed[k - 1], lowest(times[k], errs[k]), highest(times[k], errs[k]), row[k]);
            return true;
        }

        private void keep() {
            if (found >= MOST_WAYS) {
                spent = true;
                return;
            }
            System.arraycopy(row, 0, counts, found * ARRIVALS, arrivals);
            periods[found].copy(allowed[arrivals - 1]);
            found++;
        }

        /** The least that a count times a PERIOD may be, of an ARRIVAL at a time. */
        private long lowest(int time, int err) {
            return 1000L * (time - times[0] - err - errs[0]);
        }

        private long highest(int time, int err) {
            return 1000L * (time - times[0] + err + errs[0]);
        }

        int countOf(int i, int k) {
            return counts[i * ARRIVALS + k];
        }

        /** The SURE count of ARRIVAL k, or NONE. */
        int oneCount(int k) {
            for (int i = 1; i < found; i++) {
                if (countOf(i, k) != countOf(0, k)) {
                    return NONE;
                }
            }
            return found == 0 ? NONE : countOf(0, k);
        }

        boolean canLook(int t) {
            return stands() && t >= times[arrivals - 1];
        }

        int goOn(int t, int e) {
            int sum = 0;
            for (int i = 0; i < found; i++) {
                long least = Math.max(countOf(i, arrivals - 1) + 1L, periods[i].leastCount(lowest(t, e)));
                if (least <= periods[i].greatestCount(highest(t, e))) {
                    sum++;
                }
            }
            return sum;
        }

        int bestLook(int t, int step, int n, int e) {
            int best = NONE;
            int fewest = MOST_WAYS + 1;
            for (int i = 0; i < n; i++) {
                int goingOn = goOn(t + i * step, e);
                if (goingOn > 0 && goingOn < fewest) {
                    fewest = goingOn;
                    best = t + i * step;
                }
            }
            return best;
        }

        long fitted(int i, int what) {
            long sumC = 0;
            long sumT = 0;
            long sumCC = 0;
            long sumCT = 0;
            for (int k = 0; k < arrivals; k++) {
                long c = countOf(i, k);
                sumC += c;
                sumT += times[k];
                sumCC += c * c;
                sumCT += c * times[k];
            }
            long below = arrivals * sumCC - sumC * sumC;
            long x = sumT * sumCC - sumC * sumCT;
            long y = arrivals * sumCT - sumC * sumT;
            switch (what) {
                case 0: return x / Fractions.commonDivisor(x, below);
                case 1: return below / Fractions.commonDivisor(x, below);
                case 2: return y / Fractions.commonDivisor(y, below);
                case 3: return below / Fractions.commonDivisor(y, below);
                default: return outside(i, x, y, below);
            }
        }

        private int outside(int i, long x, long y, long below) {
            int sum = 0;
            for (int k = 0; k < arrivals; k++) {
                if (Math.abs(times[k] * below - x - countOf(i, k) * y) > errs[k] * below) {
                    sum++;
                }
            }
            return sum;
        }
    }

    /** Where a row of RESIDUES slips. */
    private static final class Slips {
        static final int FEWEST = 4, MOST_TURNED = 12;

        static int placeOf(int[] row, int n) {
            long all = sumOf(row, n);
            int best = 2;
            for (int k = 3; k <= n - 2; k++) {
                if (!Fractions.isAtLeast(squareAt(row, n, best, all), weight(n, best),
                        squareAt(row, n, k, all), weight(n, k))) {
                    best = k;
                }
            }
            return best;
        }

        private static long sumOf(int[] row, int k) {
            long sum = 0;
            for (int i = 0; i < k; i++) {
                sum += row[i];
            }
            return sum;
        }

        private static long squareAt(int[] row, int n, int k, long all) {
            long off = n * sumOf(row, k) - k * all;
            return off * off;
        }

        private static int weight(int n, int k) {
            return k * (n - k);
        }

        static int asGreatRows(int[] row, int n) {
            int best = placeOf(row, n);
            long square = squareAt(row, n, best, sumOf(row, n));
            int sum = 0;
            // with all signs turned every G stays: the last sign need not be turned
            for (int signs = 0; signs < 1 << (n - 1); signs++) {
                if (isAsGreat(row, n, signs, square, weight(n, best))) {
                    sum += 2;
                }
            }
            return sum;
        }

        private static boolean isAsGreat(int[] row, int n, int signs, long square, int weight) {
            long all = 0;
            for (int i = 0; i < n; i++) {
                all += signed(row, i, signs);
            }
            long first = signed(row, 0, signs);
            for (int k = 2; k <= n - 2; k++) {
                first += signed(row, k - 1, signs);
                long off = n * first - k * all;
                if (Fractions.isAtLeast(off * off, weight(n, k), square, weight)) {
                    return true;
                }
            }
            return false;
        }

        private static int signed(int[] row, int i, int signs) {
            return (signs >> i & 1) == 1 ? -row[i] : row[i];
        }
    }

    /** The common hum of two rows of RESIDUES. */
    private static final class Hums {
        static final int FEWEST = 2, MOST = 7;

        static long products(int[] row, int[] other, int n) {
            long sum = 0;
            for (int i = 0; i < n; i++) {
                sum += (long) row[i] * other[i];
            }
            return sum;
        }

        static int asGreatOrders(int[] row, int[] other, int n) {
            return asGreatFrom(row, other, n, 0, 0, products(row, other, n));
        }

        /** Of the orders of what is not used by the first i: how many bring the sum to the goal. */
        private static int asGreatFrom(int[] row, int[] other, int n, int i, int used, long goal) {
            if (i >= n || i >= MOST) {
                return goal <= 0 ? 1 : 0;
            }
            int sum = 0;
            for (int j = 0; j < n; j++) {
                if ((used >> j & 1) == 0) {
                    sum += asGreatFrom(row, other, n, i + 1, used | 1 << j, goal - (long) row[i] * other[j]);
                }
            }
            return sum;
        }
    }

    /** What lies between two INSTRUMENTS, pair by pair. */
    private static final class Gaps {
        // of 24 ARRIVALS 12 by each of two INSTRUMENTS make the most pairs
        private static final int MOST = STARS * 12 * 12;

        private final int[] sizes = new int[MOST];
        private int many;

        void empty() {
            many = 0;
        }

        void put(int size) {
            if (many < MOST) {
                sizes[many] = size;
                many++;
            }
        }

        int middle() {
            int low = -LAST_AT;
            int high = LAST_AT;
            for (int step = 0; step < 32 && low < high; step++) {
                int mid = Math.floorDiv(low + high, 2);
                if (howManyUpTo(mid) > (many - 1) / 2) {
                    high = mid;
                } else {
                    low = mid + 1;
                }
            }
            return low;
        }

        private int howManyUpTo(int size) {
            int sum = 0;
            for (int i = 0; i < many; i++) {
                if (sizes[i] <= size) {
                    sum++;
                }
            }
            return sum;
        }
    }
}
