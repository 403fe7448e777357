import java.util.Arrays;

/** The night train, which stands wherever somebody is dreaming of it. */
public final class DreamTrain {
    public static final int BAD = -1, FULL = -2, FINDING = -3, STATE = -4, SPENT = -6, NONE = -9;

    private static final int NOTHING = 1, BEYOND = 2, UNLIKE = 3, NOUGHT = 4, SIZE = 5;
    private static final int FINDING_COUNT = 5;

    private static final int ROW_COUNT = 6, ROW_LIMIT = 40;
    private static final int TEXT_COUNT = 4, TEXT_LIMIT = 60;
    private static final int KEPT_COUNT = 3;
    private static final int MISSING = -1;

    private static final int SLEEPER = 0, CHEESE = 1, SCHOOLBOY = 2, INSOMNIAC = 3, SIGNALMAN = 4, LOVER = 5;
    private static final int KIND_COUNT = 6;
    private static final int[] KIND_LETTERS = {115, 99, 98, 105, 103, 108};
    private static final int[] KIND_ABOVE = {SLEEPER, SLEEPER, SLEEPER, SLEEPER, CHEESE, SCHOOLBOY};

    private static final int SLEEPER_LIMIT = 6, SET_LIMIT = 1 << SLEEPER_LIMIT;
    private static final int SUPPER_COUNT = 10;
    private static final int LEAST_LAST_PLACE = 5, PLACE_LIMIT = 20, DUE_LIMIT = 60;
    private static final int DEED_LIMIT = 40, LAST_MINUTE = 99;

    private static final int RIDE_LIMIT = 60;
    private static final int MARK_MINUTES = 60, STOOD_MINUTES = 60, BED_MINUTES = 40, DUEL_MINUTES = 20;
    private static final int FEAST_LIMIT = 40, ODDS_LIMIT = 30, SEEN_LIMIT = 20, TURN_LIMIT = 4;
    private static final int CHANCE_PARTS = 12;
    private static final int LOTS_LIMIT = 20, LOT_FACTOR = 48271, LOT_MODULUS = 2147483647;
    private static final int TOLD_OF_SLEEPER = 5, TOLD_COUNTS = 12;

    private static final int BLANK = 32, LETTER_N = 110, FIGURE_0 = 48;

    private final Shelf rows = new Shelf(ROW_COUNT, ROW_LIMIT);
    private final Shelf texts = new Shelf(TEXT_COUNT, TEXT_LIMIT);
    private final Line now = new Line();
    private final Line draft = new Line();
    private final Line[] keptLines = new Line[KEPT_COUNT];
    private final boolean[] isKept = new boolean[KEPT_COUNT];
    private final Reader reader = new Reader();
    private final Journey journey = new Journey();
    private final long[][] supperBits = new long[SLEEPER_LIMIT][SUPPER_COUNT];
    private final int[][] kindTracks = new int[KIND_COUNT][SEEN_LIMIT + 1];
    private final int[][] duelPlaces = new int[TURN_LIMIT + 1][SET_LIMIT];
    private final long[] placeWeights = new long[PLACE_LIMIT + 1];
    private final int[] findingCounts = new int[FINDING_COUNT + 1];
    private int told;
    private long upperTold;
    private long lowerTold = 1;
    private int latestFinding;

    public DreamTrain() {
        for (int k = 0; k < KEPT_COUNT; k++) {
            keptLines[k] = new Line();
        }
    }

    // ---- 1 rows, texts, lines

    public int row(int r, int n) {
        if (!rows.bears(r) || n > ROW_LIMIT) {
            return BAD;
        }
        if (n < 0) {
            return found(SIZE);
        }
        rows.layOut(r, n, 0);
        return n;
    }

    public int lay(int r, int i, int v) {
        int refusal = refusalOfCell(rows, r, i);
        if (refusal != 0) {
            return refusal;
        }
        told = rows.cells[r][i];
        rows.cells[r][i] = v;
        return 1;
    }

    public int at(int r, int i) {
        int refusal = refusalOfCell(rows, r, i);
        if (refusal != 0) {
            return refusal;
        }
        told = rows.cells[r][i];
        return 1;
    }

    public int tear(int r) {
        int refusal = refusalOfShelf(rows, r);
        if (refusal != 0) {
            return refusal;
        }
        rows.sizes[r] = MISSING;
        return 1;
    }

    public int copy(int r, int i, int to, int j, int n) {
        if (!rows.bears(r) || !rows.bears(to)) {
            return BAD;
        }
        if (n < 0) {
            return found(SIZE);
        }
        if (!rows.holds(r) || !rows.holds(to)) {
            return found(NOTHING);
        }
        if (!isSpan(i, n, rows.sizes[r]) || !isSpan(j, n, rows.sizes[to])) {
            return found(BEYOND);
        }
        System.arraycopy(rows.cells[r], i, rows.cells[to], j, n);
        return 1;
    }

    public int mean(int r) {
        int refusal = refusalOfShelf(rows, r);
        if (refusal != 0) {
            return refusal;
        }
        int size = rows.sizes[r];
        if (size <= 0) {
            return found(NOUGHT);
        }
        long sum = 0;
        for (int i = 0; i < size; i++) {
            sum += rows.cells[r][i];
        }
        told = (int) (sum / size);
        return 1;
    }

    public int text(int t, int n) {
        if (!texts.bears(t) || n > TEXT_LIMIT) {
            return BAD;
        }
        if (n < 0) {
            return found(SIZE);
        }
        texts.layOut(t, n, BLANK);
        return n;
    }

    public int put(int t, int i, int v) {
        int refusal = refusalOfCell(texts, t, i);
        if (refusal != 0) {
            return refusal;
        }
        int was = texts.cells[t][i];
        texts.cells[t][i] = (byte) v;
        return was + 1000;
    }

    public int fault(int t) {
        int refusal = refusalOfShelf(texts, t);
        if (refusal != 0) {
            return refusal;
        }
        return reader.readInto(draft, texts.cells[t], texts.sizes[t]);
    }

    public int line(int t) {
        int refusal = refusalOfShelf(texts, t);
        if (refusal != 0) {
            return refusal;
        }
        if (reader.readInto(draft, texts.cells[t], texts.sizes[t]) != NONE) {
            return STATE;
        }
        now.become(draft);
        for (int k = 0; k < KEPT_COUNT; k++) {
            isKept[k] = false;
        }
        return now.sleepers;
    }

    public int sleeper(int i, int what) {
        if (!isBelow(i, now.sleepers) || !isBelow(what, TOLD_OF_SLEEPER)) {
            return BAD;
        }
        told = toldOfSleeper(i, what);
        return 1;
    }

    public int mark(int i, int kind) {
        if (!isBelow(i, now.sleepers) || kind == SLEEPER || !isBelow(kind, KIND_COUNT)) {
            return BAD;
        }
        int own = now.kindOf[i];
        if (own != kind && KIND_ABOVE[own] != kind) {
            return found(UNLIKE);
        }
        int supper = now.supperOf[i];
        switch (kind) {
            case CHEESE:
                return dreamtMinutes(own, supper);
            case SCHOOLBOY:
                return dreamtMinutes(own, supper) - dreamtMinutes(SLEEPER, supper) + 100;
            case LOVER:
                return dreamtMinutes(SCHOOLBOY, supper) - dreamtMinutes(own, supper);
            default:
                return firstDream(own, supper);
        }
    }

    public int dreams(int i, int t) {
        if (!isBelow(i, now.sleepers) || !isBelow(t, LAST_MINUTE + 1)) {
            return BAD;
        }
        return bit(wouldDream(now.kindOf[i], now.supperOf[i], t));
    }

    // ---- 2 deeds

    public int minute() {
        if (now.sleepers == 0 || now.clock >= LAST_MINUTE) {
            return STATE;
        }
        if (!now.hasRoomFor(1)) {
            return FULL;
        }
        now.passMinute();
        return now.place;
    }

    public int feed(int i, int supper) {
        if (!isBelow(i, now.sleepers) || !isBelow(supper, SUPPER_COUNT)) {
            return BAD;
        }
        if (!now.hasRoomFor(1)) {
            return FULL;
        }
        int was = now.supperOf[i];
        now.changeSupper(i, supper);
        return was;
    }

    public int wake(int i) {
        if (!isBelow(i, now.sleepers)) {
            return BAD;
        }
        if (!now.isAsleep(i)) {
            return STATE;
        }
        if (!now.hasRoomFor(1)) {
            return FULL;
        }
        int dreamt = bit(now.isDreaming(i));
        now.wakeOrLull(i);
        return dreamt;
    }

    public int lull(int i) {
        if (!isBelow(i, now.sleepers)) {
            return BAD;
        }
        if (now.isAsleep(i)) {
            return STATE;
        }
        if (!now.hasRoomFor(1)) {
            return FULL;
        }
        now.wakeOrLull(i);
        return bit(now.isDreaming(i));
    }

    public int undo(int n) {
        if (!isBelow(n, now.deeds + 1)) {
            return BAD;
        }
        int undone = now.deeds - n;
        for (int d = 0; d < undone; d++) {
            now.takeBackLatest();
        }
        return undone;
    }

    public int keep(int k) {
        if (!isBelow(k, KEPT_COUNT)) {
            return BAD;
        }
        if (now.sleepers == 0) {
            return STATE;
        }
        keptLines[k].become(now);
        isKept[k] = true;
        return now.deeds;
    }

    public int on(int k) {
        if (!isBelow(k, KEPT_COUNT)) {
            return BAD;
        }
        if (!isKept[k]) {
            return found(NOTHING);
        }
        now.become(keptLines[k]);
        return now.deeds;
    }

    // ---- 3 minutes to come

    public int train(int n) {
        if (!isBelow(n, RIDE_LIMIT + 1)) {
            return BAD;
        }
        if (now.sleepers == 0) {
            return STATE;
        }
        journey.setOut(now);
        int place = journey.ride(n, now.asleep);
        // It has stood in every minute in which it did not go on.
        told = n - (place - now.place);
        return place;
    }

    public int comes() {
        if (now.sleepers == 0) {
            return STATE;
        }
        journey.setOut(now);
        journey.ride(RIDE_LIMIT, now.asleep);
        for (int m = 0; m <= RIDE_LIMIT; m++) {
            if (journey.track[m] == now.lastPlace) {
                told = now.clock + m;
                return m;
            }
        }
        return NONE;
    }

    public int stood(int i) {
        if (!isBelow(i, now.sleepers)) {
            return BAD;
        }
        journey.setOut(now);
        journey.ride(STOOD_MINUTES, now.asleep);
        return journey.minutesAt(now.bedOf[i], STOOD_MINUTES);
    }

    // ---- 4 what to do

    public int intime() {
        if (now.sleepers == 0) {
            return STATE;
        }
        int left = Math.max(0, now.due - now.clock);
        int fewest = NONE;
        int who = 0;
        journey.setOut(now);
        for (int woken = 0; woken < now.setCount(); woken++) {
            int many = Integer.bitCount(woken);
            if (isPart(woken, now.asleep) && (fewest == NONE || many < fewest)
                    && journey.ride(left, now.asleep & ~woken) == now.lastPlace) {
                fewest = many;
                who = woken;
            }
        }
        if (fewest != NONE) {
            told = who;
        }
        return fewest;
    }

    public int feast(int place, int n) {
        if (!isBelow(place, PLACE_LIMIT + 1) || !isBelow(n, FEAST_LIMIT + 1)) {
            return BAD;
        }
        if (now.sleepers == 0) {
            return STATE;
        }
        journey.setOut(now);
        if (standsBehind(n, place)) {
            told = 0;
            return 0;
        }
        learnSuppers();
        int way = wayByOne(0, n, place);
        if (way != NONE) {
            told = way;
            return 1;
        }
        way = wayByTwo(n, place);
        if (way != NONE) {
            told = way;
            return 2;
        }
        return NONE;
    }

    public int bed(int i) {
        if (!isBelow(i, now.sleepers)) {
            return BAD;
        }
        int best = 0;
        int most = -1;
        journey.setOut(now);
        for (int place = 0; place <= now.lastPlace; place++) {
            journey.bedOf[i] = place;
            journey.ride(BED_MINUTES, now.asleep);
            int minutes = journey.minutesAt(place, BED_MINUTES);
            if (minutes > most) {
                most = minutes;
                best = place;
            }
        }
        told = most;
        return best;
    }

    // ---- 5 on whose account

    public int account(int r) {
        if (!rows.bears(r)) {
            return BAD;
        }
        if (now.sleepers == 0) {
            return STATE;
        }
        int refusal = refusalOfSeen(r);
        if (refusal != 0) {
            return refusal;
        }
        int fitting = 0;
        int inAll = now.setCount() - 1;
        journey.setOut(now);
        for (int asleep = 0; asleep < now.setCount(); asleep++) {
            if (fitsSeen(r, asleep)) {
                fitting++;
                inAll &= asleep;
            }
        }
        if (fitting == 0) {
            return NONE;
        }
        told = inAll;
        return fitting;
    }

    public int kinds(int i, int r) {
        if (!isBelow(i, now.sleepers) || !rows.bears(r)) {
            return BAD;
        }
        int refusal = refusalOfSeen(r);
        if (refusal != 0) {
            return refusal;
        }
        int fitting = 0;
        journey.setOut(now);
        for (int kind = 0; kind < KIND_COUNT; kind++) {
            journey.dreamBits[i] = dreamBitsFrom(kind, now.supperOf[i], now.clock);
            if (fitsSeen(r, now.asleep)) {
                fitting |= 1 << kind;
            }
        }
        return fitting;
    }

    public int look(int i) {
        if (!isBelow(i, now.sleepers)) {
            return BAD;
        }
        journey.setOut(now);
        for (int kind = 0; kind < KIND_COUNT; kind++) {
            journey.dreamBits[i] = dreamBitsFrom(kind, now.supperOf[i], now.clock);
            journey.ride(SEEN_LIMIT, now.asleep);
            System.arraycopy(journey.track, 0, kindTracks[kind], 0, SEEN_LIMIT + 1);
        }
        int best = 1;
        int least = KIND_COUNT + 1;
        for (int m = 1; m <= SEEN_LIMIT; m++) {
            int part = greatestPart(m);
            if (part < least) {
                least = part;
                best = m;
            }
        }
        told = least;
        return best;
    }

    // ---- 6 by turns

    public int duel(int n) {
        if (!isBelow(n, TURN_LIMIT + 1)) {
            return BAD;
        }
        if (now.sleepers == 0) {
            return STATE;
        }
        journey.setOut(now);
        for (int asleep = 0; asleep < now.setCount(); asleep++) {
            duelPlaces[0][asleep] = journey.ride(DUEL_MINUTES, asleep);
        }
        for (int left = 1; left <= n; left++) {
            boolean isWaking = (n - left) % 2 == 0;
            playTurn(left, isWaking);
        }
        return duelPlaces[n][now.asleep];
    }

    // ---- 7 chances, lots

    public int odds(int n, int v, int p) {
        if (!isBelow(n, ODDS_LIMIT + 1) || !isBelow(v, PLACE_LIMIT + 1) || !isBelow(p, CHANCE_PARTS + 1)) {
            return BAD;
        }
        if (now.sleepers == 0) {
            return STATE;
        }
        weighPlaces(n, p);
        long sum = 0;
        for (int place = v; place <= PLACE_LIMIT; place++) {
            sum += placeWeights[place];
        }
        tellPart(sum, power(CHANCE_PARTS, Integer.bitCount(now.asleep)));
        return 1;
    }

    public int mid(int n, int p) {
        if (!isBelow(n, ODDS_LIMIT + 1) || !isBelow(p, CHANCE_PARTS + 1)) {
            return BAD;
        }
        if (now.sleepers == 0) {
            return STATE;
        }
        weighPlaces(n, p);
        long sum = 0;
        for (int place = 0; place <= PLACE_LIMIT; place++) {
            sum += place * placeWeights[place];
        }
        tellPart(sum, power(CHANCE_PARTS, Integer.bitCount(now.asleep)));
        return 1;
    }

    public int lots(int n, int seed) {
        if (n < 1 || n > LOTS_LIMIT || seed < 1 || seed >= LOT_MODULUS) {
            return BAD;
        }
        if (now.sleepers == 0) {
            return STATE;
        }
        if (!now.hasRoomFor(n)) {
            return FULL;
        }
        long lot = seed;
        for (int d = 0; d < n; d++) {
            lot = lot * LOT_FACTOR % LOT_MODULUS;
            doByLot((int) lot);
        }
        return now.place;
    }

    // ---- 8 what is told

    public int asked() {
        return told;
    }

    public long upper() {
        return upperTold;
    }

    public long lower() {
        return lowerTold;
    }

    public int count(int what) {
        return isBelow(what, TOLD_COUNTS) ? toldCount(what) : BAD;
    }

    public int finding() {
        return latestFinding;
    }

    public int findings(int f) {
        return f >= 1 && f <= FINDING_COUNT ? findingCounts[f] : BAD;
    }

    public long digest() {
        long h = 17;
        for (int what = 0; what < TOLD_COUNTS; what++) {
            h = 31 * h + toldCount(what);
        }
        for (int i = 0; i < now.sleepers; i++) {
            for (int what = 0; what < TOLD_OF_SLEEPER; what++) {
                h = 31 * h + toldOfSleeper(i, what);
            }
        }
        for (int k = 0; k < KEPT_COUNT; k++) {
            h = 31 * h + (isKept[k] ? keptLines[k].deeds : MISSING);
        }
        return texts.stir(rows.stir(h));
    }

    // ---- what is refused

    private static boolean isBelow(int i, int bound) {
        return i >= 0 && i < bound;
    }

    private static boolean isSpan(int from, int n, int size) {
        return from >= 0 && n <= size && from <= size - n;
    }

    private int found(int which) {
        latestFinding = which;
        findingCounts[which]++;
        return FINDING;
    }

    /** 0: nothing is to be refused (so, too, in the two below). */
    private int refusalOfShelf(Shelf shelf, int r) {
        if (!shelf.bears(r)) {
            return BAD;
        }
        return shelf.holds(r) ? 0 : found(NOTHING);
    }

    private int refusalOfCell(Shelf shelf, int r, int i) {
        int refusal = refusalOfShelf(shelf, r);
        if (refusal != 0) {
            return refusal;
        }
        return isBelow(i, shelf.sizes[r]) ? 0 : found(BEYOND);
    }

    private int refusalOfSeen(int r) {
        int refusal = refusalOfShelf(rows, r);
        if (refusal != 0) {
            return refusal;
        }
        int size = rows.sizes[r];
        if (size < 1 || size > SEEN_LIMIT) {
            return found(SIZE);
        }
        for (int i = 0; i < size; i++) {
            if (!isBelow(rows.cells[r][i], now.lastPlace + 1)) {
                return found(UNLIKE);
            }
        }
        return 0;
    }

    // ---- kinds of sleepers

    private static boolean wouldDream(int kind, int supper, int t) {
        int bySix = (t + supper) % 6;
        boolean asSleeper = bySix <= 1;
        boolean asCheese = bySix <= 3;
        boolean asSchoolboy = asSleeper || (t + supper) % 5 == 0;
        switch (kind) {
            case CHEESE:
                return asCheese;
            case SCHOOLBOY:
                return asSchoolboy;
            case INSOMNIAC:
                return asSleeper && t >= 20;
            case SIGNALMAN:
                return asCheese || t >= 30;
            case LOVER:
                return asSchoolboy && supper % 2 == 0;
            default:
                return asSleeper;
        }
    }

    private static int dreamtMinutes(int kind, int supper) {
        int minutes = 0;
        for (int t = 0; t < MARK_MINUTES; t++) {
            minutes += bit(wouldDream(kind, supper, t));
        }
        return minutes;
    }

    /** Of a signalman only what one of cheese would not dream counts. */
    private static int firstDream(int kind, int supper) {
        for (int t = 0; t < MARK_MINUTES; t++) {
            boolean counts = kind != SIGNALMAN || !wouldDream(CHEESE, supper, t);
            if (counts && wouldDream(kind, supper, t)) {
                return t;
            }
        }
        return NONE;
    }

    /** Bit m: whether one would dream m minutes behind the first. */
    private static long dreamBitsFrom(int kind, int supper, int first) {
        long bits = 0;
        for (int m = 0; m <= RIDE_LIMIT; m++) {
            if (wouldDream(kind, supper, first + m)) {
                bits |= 1L << m;
            }
        }
        return bits;
    }

    // ---- other suppers

    private void learnSuppers() {
        for (int i = 0; i < now.sleepers; i++) {
            for (int supper = 0; supper < SUPPER_COUNT; supper++) {
                supperBits[i][supper] = dreamBitsFrom(now.kindOf[i], supper, now.clock);
            }
        }
    }

    private boolean standsBehind(int n, int place) {
        journey.ride(n + 1, now.asleep);
        return journey.track[n] == place && journey.track[n + 1] == place;
    }

    /** Whoever is awake, or lies where it does not come by then, changes nothing by a supper. */
    private boolean mattersTo(int place, int i) {
        return now.isAsleep(i) && now.bedOf[i] >= now.place && now.bedOf[i] <= place;
    }

    /** A way is 10 times who and the supper, so that the first one is the least number. */
    private int wayByOne(int from, int n, int place) {
        for (int way = from; way < now.sleepers * SUPPER_COUNT; way++) {
            int i = way / SUPPER_COUNT;
            if (mattersTo(place, i)) {
                long usual = journey.dreamBits[i];
                journey.dreamBits[i] = supperBits[i][way % SUPPER_COUNT];
                boolean helps = standsBehind(n, place);
                journey.dreamBits[i] = usual;
                if (helps) {
                    return way;
                }
            }
        }
        return NONE;
    }

    private int wayByTwo(int n, int place) {
        for (int way = 0; way < now.sleepers * SUPPER_COUNT; way++) {
            int i = way / SUPPER_COUNT;
            if (mattersTo(place, i)) {
                long usual = journey.dreamBits[i];
                journey.dreamBits[i] = supperBits[i][way % SUPPER_COUNT];
                int other = wayByOne((i + 1) * SUPPER_COUNT, n, place);
                journey.dreamBits[i] = usual;
                if (other != NONE) {
                    return 1000 * way + other;
                }
            }
        }
        return NONE;
    }

    // ---- what was seen

    private boolean fitsSeen(int r, int asleep) {
        int size = rows.sizes[r];
        journey.ride(size, asleep);
        for (int m = 0; m < size; m++) {
            if (journey.track[m + 1] != rows.cells[r][m]) {
                return false;
            }
        }
        return true;
    }

    /** How many kinds are alike at most, by where it is behind m minutes. */
    private int greatestPart(int m) {
        int greatest = 0;
        for (int kind = 0; kind < KIND_COUNT; kind++) {
            int alike = 0;
            for (int other = 0; other < KIND_COUNT; other++) {
                alike += bit(kindTracks[other][m] == kindTracks[kind][m]);
            }
            greatest = Math.max(greatest, alike);
        }
        return greatest;
    }

    // ---- turns, chances, lots

    private void playTurn(int left, boolean isWaking) {
        for (int asleep = 0; asleep < now.setCount(); asleep++) {
            int best = duelPlaces[left - 1][asleep];
            for (int i = 0; i < now.sleepers; i++) {
                int one = 1 << i;
                int then = duelPlaces[left - 1][asleep ^ one];
                boolean isOneAsleep = (asleep & one) != 0;
                if (isWaking && isOneAsleep) {
                    best = Math.max(best, then);
                } else if (!isWaking && !isOneAsleep) {
                    best = Math.min(best, then);
                }
            }
            duelPlaces[left][asleep] = best;
        }
    }

    /** Weights are parts of 12 to the power of how many are asleep. */
    private void weighPlaces(int n, int p) {
        Arrays.fill(placeWeights, 0L);
        journey.setOut(now);
        for (int asleep = 0; asleep < now.setCount(); asleep++) {
            if (isPart(asleep, now.asleep)) {
                int place = journey.ride(n, asleep);
                long woken = power(p, Integer.bitCount(now.asleep & ~asleep));
                placeWeights[place] += woken * power(CHANCE_PARTS - p, Integer.bitCount(asleep));
            }
        }
    }

    private void tellPart(long part, long whole) {
        long divisor = greatestDivisor(part, whole);
        upperTold = part / divisor;
        lowerTold = whole / divisor;
    }

    /** At least 1, so that it may divide. */
    private static long greatestDivisor(long a, long b) {
        for (int step = 0; step < 200 && b != 0; step++) {
            long rest = a % b;
            a = b;
            b = rest;
        }
        return Math.max(1, a);
    }

    private static long power(int base, int exponent) {
        long product = 1;
        for (int i = 0; i < exponent; i++) {
            product *= base;
        }
        return product;
    }

    private void doByLot(int lot) {
        if (now.sleepers == 0) {
            return;
        }
        int who = lot / 8 % now.sleepers;
        switch (lot % 4) {
            case 0:
                now.wakeOrLull(who);
                break;
            case 1:
                now.changeSupper(who, lot / 64 % SUPPER_COUNT);
                break;
            default:
                now.passMinute();
                break;
        }
    }

    // ---- what is told

    private static int bit(boolean is) {
        return is ? 1 : 0;
    }

    private static boolean isPart(int part, int whole) {
        return (part & ~whole) == 0;
    }

    private int toldOfSleeper(int i, int what) {
        switch (what) {
            case 0:
                return now.kindOf[i];
            case 1:
                return now.bedOf[i];
            case 2:
                return now.supperOf[i];
            case 3:
                return bit(now.isAsleep(i));
            default:
                return bit(now.isDreaming(i));
        }
    }

    private int toldCount(int what) {
        switch (what) {
            case 0:
                return now.sleepers;
            case 1:
                return now.lastPlace;
            case 2:
                return now.deeds;
            case 3:
                return now.clock;
            case 4:
                return now.place;
            case 5:
                return now.asleep;
            case 6:
                return now.dreamers();
            case 7:
                return now.due;
            case 8:
                return rows.howMany();
            case 9:
                return texts.howMany();
            case 10:
                return keptCount();
            default:
                return now.cheeseEaters();
        }
    }

    private int keptCount() {
        int kept = 0;
        for (int k = 0; k < KEPT_COUNT; k++) {
            kept += bit(isKept[k]);
        }
        return kept;
    }

    /** Rows of ints (bytes among them), each there or missing. */
    private static final class Shelf {
        private final int[][] cells;
        private final int[] sizes;

        private Shelf(int many, int longest) {
            cells = new int[many][longest];
            sizes = new int[many];
            Arrays.fill(sizes, MISSING);
        }

        private boolean bears(int r) {
            return isBelow(r, sizes.length);
        }

        private boolean holds(int r) {
            return bears(r) && sizes[r] != MISSING;
        }

        private void layOut(int r, int n, int value) {
            Arrays.fill(cells[r], value);
            sizes[r] = n;
        }

        private int howMany() {
            int there = 0;
            for (int r = 0; r < sizes.length; r++) {
                there += bit(holds(r));
            }
            return there;
        }

        private long stir(long digest) {
            long h = digest;
            for (int r = 0; r < sizes.length; r++) {
                h = 31 * h + sizes[r];
                for (int i = 0; i < sizes[r]; i++) {
                    h = 31 * h + cells[r][i];
                }
            }
            return h;
        }
    }

    /** A line as it is, with its deeds, each with what it needs to be taken back. */
    private static final class Line {
        private static final int MINUTE_PASSED = 0, SUPPER_CHANGED = 1, WOKEN_OR_LULLED = 2, NOTHING_ELSE = 3;

        private final int[] kindOf = new int[SLEEPER_LIMIT];
        private final int[] bedOf = new int[SLEEPER_LIMIT];
        private final int[] supperOf = new int[SLEEPER_LIMIT];
        private final int[] deedWhat = new int[DEED_LIMIT];
        private final int[] deedWho = new int[DEED_LIMIT];
        private final int[] deedWas = new int[DEED_LIMIT];
        private int sleepers;
        private int lastPlace;
        private int due;
        private int asleep;
        private int clock;
        private int place;
        private int deeds;

        private void begin(int last, int dueMinute) {
            sleepers = 0;
            lastPlace = last;
            due = dueMinute;
            asleep = 0;
            clock = 0;
            place = 0;
            deeds = 0;
        }

        private void addSleeper(int kind, int bed, int supper) {
            if (sleepers >= SLEEPER_LIMIT) {
                return;
            }
            kindOf[sleepers] = kind;
            bedOf[sleepers] = bed;
            supperOf[sleepers] = supper;
            asleep |= 1 << sleepers;
            sleepers++;
        }

        private void become(Line other) {
            System.arraycopy(other.kindOf, 0, kindOf, 0, SLEEPER_LIMIT);
            System.arraycopy(other.bedOf, 0, bedOf, 0, SLEEPER_LIMIT);
            System.arraycopy(other.supperOf, 0, supperOf, 0, SLEEPER_LIMIT);
            System.arraycopy(other.deedWhat, 0, deedWhat, 0, DEED_LIMIT);
            System.arraycopy(other.deedWho, 0, deedWho, 0, DEED_LIMIT);
            System.arraycopy(other.deedWas, 0, deedWas, 0, DEED_LIMIT);
            sleepers = other.sleepers;
            lastPlace = other.lastPlace;
            due = other.due;
            asleep = other.asleep;
            clock = other.clock;
            place = other.place;
            deeds = other.deeds;
        }

        private int setCount() {
            return 1 << sleepers;
        }

        private boolean isAsleep(int i) {
            return (asleep >> i & 1) != 0;
        }

        private boolean isDreaming(int i) {
            return isAsleep(i) && wouldDream(kindOf[i], supperOf[i], clock);
        }

        private int dreamers() {
            int set = 0;
            for (int i = 0; i < sleepers; i++) {
                set |= bit(isDreaming(i)) << i;
            }
            return set;
        }

        private int cheeseEaters() {
            int many = 0;
            for (int i = 0; i < sleepers; i++) {
                many += bit(kindOf[i] == CHEESE || kindOf[i] == SIGNALMAN);
            }
            return many;
        }

        private boolean isStanding() {
            boolean stands = place >= lastPlace;
            for (int i = 0; i < sleepers; i++) {
                stands |= bedOf[i] == place && isDreaming(i);
            }
            return stands;
        }

        private boolean hasRoomFor(int more) {
            return deeds <= DEED_LIMIT - more;
        }

        private void noteDeed(int what, int who, int was) {
            if (!hasRoomFor(1)) {
                return;
            }
            deedWhat[deeds] = what;
            deedWho[deeds] = who;
            deedWas[deeds] = was;
            deeds++;
        }

        private void passMinute() {
            if (clock >= LAST_MINUTE) {
                noteDeed(NOTHING_ELSE, 0, 0);
                return;
            }
            noteDeed(MINUTE_PASSED, 0, place);
            if (!isStanding()) {
                place++;
            }
            clock++;
        }

        private void changeSupper(int i, int supper) {
            noteDeed(SUPPER_CHANGED, i, supperOf[i]);
            supperOf[i] = supper;
        }

        private void wakeOrLull(int i) {
            noteDeed(WOKEN_OR_LULLED, i, asleep);
            asleep ^= 1 << i;
        }

        private void takeBackLatest() {
            if (deeds <= 0) {
                return;
            }
            deeds--;
            int was = deedWas[deeds];
            switch (deedWhat[deeds]) {
                case MINUTE_PASSED:
                    clock--;
                    place = was;
                    break;
                case SUPPER_CHANGED:
                    supperOf[deedWho[deeds]] = was;
                    break;
                case WOKEN_OR_LULLED:
                    asleep = was;
                    break;
                default:
                    break;
            }
        }
    }

    /** Reads a line from a text, up to its fault. */
    private static final class Reader {
        private int[] signs = new int[0];
        private int size;
        private int next;
        private int flaw;

        /** The fault, or NONE. */
        private int readInto(Line line, int[] text, int textSize) {
            signs = text;
            size = Math.min(textSize, text.length);
            next = 0;
            flaw = NONE;
            readHead(line);
            for (int i = 0; i <= SLEEPER_LIMIT && flaw == NONE; i++) {
                passBlanks();
                if (next < size) {
                    readSleeper(line);
                } else if (i == 0) {
                    flaw = size;
                }
            }
            return flaw;
        }

        private void readHead(Line line) {
            passBlanks();
            if (next >= size || signs[next] != LETTER_N) {
                flaw = next;
                return;
            }
            next++;
            int last = readTwoFigures(LEAST_LAST_PLACE, PLACE_LIMIT);
            int due = readTwoFigures(0, DUE_LIMIT);
            line.begin(last, due);
        }

        private void readSleeper(Line line) {
            int kind = kindByLetter(signs[next]);
            if (kind == NONE || line.sleepers >= SLEEPER_LIMIT) {
                flaw = next;
                return;
            }
            next++;
            int bed = readTwoFigures(0, line.lastPlace);
            int supper = readFigure();
            line.addSleeper(kind, bed, supper);
        }

        private void passBlanks() {
            while (next < size && signs[next] == BLANK) {
                next++;
            }
        }

        private static int kindByLetter(int letter) {
            for (int kind = 0; kind < KIND_COUNT; kind++) {
                if (KIND_LETTERS[kind] == letter) {
                    return kind;
                }
            }
            return NONE;
        }

        /** 0 behind a fault (so, too, below): the first fault stays. */
        private int readTwoFigures(int least, int most) {
            int start = next;
            int number = 10 * readFigure();
            number += readFigure();
            if (flaw == NONE && (number < least || number > most)) {
                flaw = start;
            }
            return flaw == NONE ? number : 0;
        }

        private int readFigure() {
            if (flaw != NONE) {
                return 0;
            }
            int figure = next < size ? signs[next] - FIGURE_0 : NONE;
            if (!isBelow(figure, SUPPER_COUNT)) {
                flaw = next;
                return 0;
            }
            next++;
            return figure;
        }
    }

    /** The minutes to come, gone through aside; bit m stands for the minute m minutes from now. */
    private static final class Journey {
        private final long[] dreamBits = new long[SLEEPER_LIMIT];
        private final int[] bedOf = new int[SLEEPER_LIMIT];
        private final long[] standBits = new long[PLACE_LIMIT + 1];
        private final int[] track = new int[RIDE_LIMIT + 1];
        private int sleepers;
        private int lastPlace;
        private int start;

        private void setOut(Line line) {
            sleepers = line.sleepers;
            lastPlace = line.lastPlace;
            start = line.place;
            for (int i = 0; i < sleepers; i++) {
                bedOf[i] = line.bedOf[i];
                dreamBits[i] = dreamBitsFrom(line.kindOf[i], line.supperOf[i], line.clock);
            }
        }

        /** Where it is behind so many minutes; the track has where it is behind fewer. */
        private int ride(int minutes, int asleep) {
            gatherStands(asleep);
            int place = start;
            track[0] = place;
            for (int m = 0; m < minutes && m < RIDE_LIMIT; m++) {
                boolean stands = place >= lastPlace || (standBits[place] >>> m & 1L) != 0;
                if (!stands) {
                    place++;
                }
                track[m + 1] = place;
            }
            return place;
        }

        private void gatherStands(int asleep) {
            Arrays.fill(standBits, 0L);
            for (int i = 0; i < sleepers; i++) {
                if ((asleep >> i & 1) != 0) {
                    standBits[bedOf[i]] |= dreamBits[i];
                }
            }
        }

        /** In how many minutes of the latest ride it stood in a place. */
        private int minutesAt(int place, int minutes) {
            int stands = 0;
            for (int m = 0; m < minutes && m < RIDE_LIMIT; m++) {
                stands += bit(track[m] == place && track[m + 1] == place);
            }
            return stands;
        }
    }
}
