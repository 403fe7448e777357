import java.math.BigInteger;
import java.util.ArrayList;
import java.util.Arrays;
import java.util.List;

/**
 * The document once more, written with the whole Java library and without a care for room or time,
 * so that the program can be compared with it: sleepers are objects of classes, every state is a new
 * object, and each question is answered by going through everything minute by minute.
 */
final class PlainTrain {
    private static final int BAD = -1, FULL = -2, FOUND = -3, STATE = -4, NONE = -9;

    static class Sleeper {
        boolean dreams(int supper, int t) {
            return (t + supper) % 6 == 0 || (t + supper) % 6 == 1;
        }
    }

    static class Cheese extends Sleeper {
        @Override
        boolean dreams(int supper, int t) {
            return (t + supper) % 6 != 4 && (t + supper) % 6 != 5;
        }
    }

    static class Schoolboy extends Sleeper {
        @Override
        boolean dreams(int supper, int t) {
            return super.dreams(supper, t) || (t + supper) % 5 == 0;
        }
    }

    static class Insomniac extends Sleeper {
        @Override
        boolean dreams(int supper, int t) {
            return t >= 20 && super.dreams(supper, t);
        }
    }

    static class Signalman extends Cheese {
        @Override
        boolean dreams(int supper, int t) {
            return t >= 30 || super.dreams(supper, t);
        }
    }

    static class Lover extends Schoolboy {
        @Override
        boolean dreams(int supper, int t) {
            return supper % 2 != 1 && super.dreams(supper, t);
        }
    }

    private static final List<Sleeper> KINDS = List.of(
            new Sleeper(), new Cheese(), new Schoolboy(), new Insomniac(), new Signalman(), new Lover());

    record One(int kind, int place, int supper, boolean asleep) {
        boolean dreams(int t) {
            return asleep && KINDS.get(kind).dreams(supper, t);
        }
    }

    record Night(int last, int due, int minute, int train, List<One> ones) {
        boolean stands() {
            if (train == last) return true;
            for (One o : ones) if (o.place() == train && o.dreams(minute)) return true;
            return false;
        }

        Night next() {
            return new Night(last, due, minute + 1, stands() ? train : train + 1, ones);
        }

        Night after(int n) {
            Night night = this;
            for (int m = 0; m < n; m++) {
                night = night.next();
            }
            return night;
        }

        Night with(int i, One one) {
            List<One> changed = new ArrayList<>(ones);
            changed.set(i, one);
            return new Night(last, due, minute, train, List.copyOf(changed));
        }

        Night asleep(int i, boolean is) {
            One o = ones.get(i);
            return with(i, new One(o.kind(), o.place(), o.supper(), is));
        }

        Night supper(int i, int supper) {
            One o = ones.get(i);
            return with(i, new One(o.kind(), o.place(), supper, o.asleep()));
        }

        Night kind(int i, int kind) {
            One o = ones.get(i);
            return with(i, new One(kind, o.place(), o.supper(), o.asleep()));
        }

        Night place(int i, int place) {
            One o = ones.get(i);
            return with(i, new One(o.kind(), place, o.supper(), o.asleep()));
        }

        Night justAsleep(int set) {
            Night night = this;
            for (int i = 0; i < ones.size(); i++) {
                night = night.asleep(i, (set & 1 << i) != 0);
            }
            return night;
        }
    }

    private static final Night NO_NIGHT = new Night(0, 0, 0, 0, List.of());

    private final int[][] rows = new int[6][];
    private final byte[][] texts = new byte[4][];
    /** The night ahead of each deed, and last the night as it is. */
    private List<Night> past = List.of(NO_NIGHT);
    private final List<List<Night>> kept = new ArrayList<>(Arrays.asList(null, null, null));
    private int asked;
    private BigInteger upper = BigInteger.ZERO;
    private BigInteger lower = BigInteger.ONE;
    private final List<Integer> found = new ArrayList<>();

    private Night night() {
        return past.get(past.size() - 1);
    }

    private int deeds() {
        return past.size() - 1;
    }

    private void deed(Night next) {
        List<Night> longer = new ArrayList<>(past);
        longer.add(next);
        past = List.copyOf(longer);
    }

    private int find(int f) {
        found.add(f);
        return FOUND;
    }

    private int one(int told) {
        asked = told;
        return 1;
    }

    private boolean noSleepers() {
        return night().ones().isEmpty();
    }

    private boolean noSleeper(int i) {
        return i < 0 || i >= night().ones().size();
    }

    int row(int r, int n) {
        if (r < 0 || r > 5 || n > 40) return BAD;
        if (n < 0) return find(5);
        rows[r] = new int[n];
        return n;
    }

    int lay(int r, int i, int v) {
        if (r < 0 || r > 5) return BAD;
        if (rows[r] == null) return find(1);
        if (i < 0 || i >= rows[r].length) return find(2);
        int was = rows[r][i];
        rows[r][i] = v;
        return one(was);
    }

    int at(int r, int i) {
        if (r < 0 || r > 5) return BAD;
        if (rows[r] == null) return find(1);
        if (i < 0 || i >= rows[r].length) return find(2);
        return one(rows[r][i]);
    }

    int tear(int r) {
        if (r < 0 || r > 5) return BAD;
        if (rows[r] == null) return find(1);
        rows[r] = null;
        return 1;
    }

    int copy(int r, int i, int to, int j, int n) {
        if (r < 0 || r > 5 || to < 0 || to > 5) return BAD;
        if (n < 0) return find(5);
        if (rows[r] == null || rows[to] == null) return find(1);
        if (i < 0 || j < 0 || (long) i + n > rows[r].length || (long) j + n > rows[to].length) return find(2);
        int[] taken = rows[r].clone();
        for (int k = 0; k < n; k++) rows[to][j + k] = taken[i + k];
        return 1;
    }

    int mean(int r) {
        if (r < 0 || r > 5) return BAD;
        if (rows[r] == null) return find(1);
        if (rows[r].length == 0) return find(4);
        BigInteger sum = BigInteger.ZERO;
        for (int v : rows[r]) sum = sum.add(BigInteger.valueOf(v));
        return one(sum.divide(BigInteger.valueOf(rows[r].length)).intValueExact());
    }

    int text(int t, int n) {
        if (t < 0 || t > 3 || n > 60) return BAD;
        if (n < 0) return find(5);
        texts[t] = new byte[n];
        Arrays.fill(texts[t], (byte) 32);
        return n;
    }

    int put(int t, int i, int v) {
        if (t < 0 || t > 3) return BAD;
        if (texts[t] == null) return find(1);
        if (i < 0 || i >= texts[t].length) return find(2);
        int was = texts[t][i];
        texts[t][i] = (byte) v;
        return was + 1000;
    }

    /** Goes sign by sign; what may come next stands in a pattern: n, figures, then letters and figures. */
    private static int faultOf(byte[] text, List<int[]> items) {
        int inItem = 0;
        int[] item = {};
        int sleepers = 0;
        int last = 0;
        for (int at = 0; at < text.length; at++) {
            int sign = text[at];
            if (inItem == 0) {
                if (sign == ' ') continue;
                boolean isHead = items.isEmpty();
                if (isHead ? sign != 'n' : "scbigl".indexOf(sign) < 0 || sleepers == 6) return at;
                item = new int[] {isHead ? -1 : "scbigl".indexOf(sign), 0, 0};
                inItem = 1;
                continue;
            }
            if (sign < '0' || sign > '9') return at;
            boolean isHead = items.isEmpty();
            int figure = sign - '0';
            if (inItem <= 2) item[1] = item[1] * 10 + figure;
            else item[2] = item[2] * 10 + figure;
            if (inItem == 2 && isHead && (item[1] < 5 || item[1] > 20)) return at - 1;
            if (inItem == 2 && !isHead && item[1] > last) return at - 1;
            if (inItem == 4 && item[2] > 60) return at - 1;
            inItem++;
            if (inItem == (isHead ? 5 : 4)) {
                if (isHead) last = item[1];
                else sleepers++;
                items.add(item);
                inItem = 0;
            }
        }
        return inItem != 0 || sleepers == 0 ? text.length : NONE;
    }

    int fault(int t) {
        if (t < 0 || t > 3) return BAD;
        if (texts[t] == null) return find(1);
        return faultOf(texts[t], new ArrayList<>());
    }

    int line(int t) {
        if (t < 0 || t > 3) return BAD;
        if (texts[t] == null) return find(1);
        List<int[]> items = new ArrayList<>();
        if (faultOf(texts[t], items) != NONE) return STATE;
        List<One> ones = items.stream().skip(1).map(m -> new One(m[0], m[1], m[2], true)).toList();
        past = List.of(new Night(items.get(0)[1], items.get(0)[2], 0, 0, ones));
        for (int k = 0; k < 3; k++) kept.set(k, null);
        return ones.size();
    }

    private int ofSleeper(int i, int what) {
        One o = night().ones().get(i);
        return switch (what) {
            case 0 -> o.kind();
            case 1 -> o.place();
            case 2 -> o.supper();
            case 3 -> o.asleep() ? 1 : 0;
            default -> o.dreams(night().minute()) ? 1 : 0;
        };
    }

    int sleeper(int i, int what) {
        if (noSleeper(i) || what < 0 || what > 4) return BAD;
        return one(ofSleeper(i, what));
    }

    private static int dreamt(int kind, int supper) {
        int many = 0;
        for (int t = 0; t <= 59; t++) if (KINDS.get(kind).dreams(supper, t)) many++;
        return many;
    }

    int mark(int i, int kind) {
        if (noSleeper(i) || kind < 1 || kind > 5) return BAD;
        One o = night().ones().get(i);
        if (!KINDS.get(kind).getClass().isInstance(KINDS.get(o.kind()))) return find(3);
        int t = 0;
        switch (kind) {
            case 1:
                return dreamt(o.kind(), o.supper());
            case 2:
                return 100 + dreamt(o.kind(), o.supper()) - dreamt(0, o.supper());
            case 3:
                while (!KINDS.get(3).dreams(o.supper(), t)) t++;
                return t;
            case 4:
                while (!KINDS.get(4).dreams(o.supper(), t) || KINDS.get(1).dreams(o.supper(), t)) t++;
                return t;
            default:
                return dreamt(2, o.supper()) - dreamt(5, o.supper());
        }
    }

    int dreams(int i, int t) {
        if (noSleeper(i) || t < 0 || t > 99) return BAD;
        One o = night().ones().get(i);
        return KINDS.get(o.kind()).dreams(o.supper(), t) ? 1 : 0;
    }

    int minute() {
        if (noSleepers() || night().minute() == 99) return STATE;
        if (deeds() == 40) return FULL;
        deed(night().next());
        return night().train();
    }

    int feed(int i, int supper) {
        if (noSleeper(i) || supper < 0 || supper > 9) return BAD;
        if (deeds() == 40) return FULL;
        int was = night().ones().get(i).supper();
        deed(night().supper(i, supper));
        return was;
    }

    int wake(int i) {
        if (noSleeper(i)) return BAD;
        if (!night().ones().get(i).asleep()) return STATE;
        if (deeds() == 40) return FULL;
        int dreamt = ofSleeper(i, 4);
        deed(night().asleep(i, false));
        return dreamt;
    }

    int lull(int i) {
        if (noSleeper(i)) return BAD;
        if (night().ones().get(i).asleep()) return STATE;
        if (deeds() == 40) return FULL;
        deed(night().asleep(i, true));
        return ofSleeper(i, 4);
    }

    int undo(int n) {
        if (n < 0 || n > deeds()) return BAD;
        int undone = deeds() - n;
        past = past.subList(0, n + 1);
        return undone;
    }

    int keep(int k) {
        if (k < 0 || k > 2) return BAD;
        if (noSleepers()) return STATE;
        kept.set(k, past);
        return deeds();
    }

    int on(int k) {
        if (k < 0 || k > 2) return BAD;
        if (kept.get(k) == null) return find(1);
        past = kept.get(k);
        return deeds();
    }

    int train(int n) {
        if (n < 0 || n > 60) return BAD;
        if (noSleepers()) return STATE;
        int stood = 0;
        for (int m = 0; m < n; m++) if (night().after(m).stands()) stood++;
        asked = stood;
        return night().after(n).train();
    }

    int comes() {
        if (noSleepers()) return STATE;
        for (int m = 0; m <= 60; m++) {
            if (night().after(m).train() == night().last()) {
                asked = night().minute() + m;
                return m;
            }
        }
        return NONE;
    }

    private static int minutesAt(Night night, int place, int minutes) {
        int many = 0;
        for (int m = 0; m < minutes; m++) {
            if (night.train() == place && night.stands()) many++;
            night = night.next();
        }
        return many;
    }

    int stood(int i) {
        if (noSleeper(i)) return BAD;
        return minutesAt(night(), night().ones().get(i).place(), 60);
    }

    private int asleepSet() {
        int set = 0;
        for (int i = 0; i < night().ones().size(); i++) if (night().ones().get(i).asleep()) set |= 1 << i;
        return set;
    }

    int intime() {
        if (noSleepers()) return STATE;
        int left = Math.max(0, night().due() - night().minute());
        for (int many = 0; many <= 6; many++) {
            for (int set = 0; set < 64; set++) {
                if (Integer.bitCount(set) == many && (set & asleepSet()) == set
                        && night().justAsleep(asleepSet() - set).after(left).train() == night().last()) {
                    asked = set;
                    return many;
                }
            }
        }
        return NONE;
    }

    private static boolean standsThere(Night night, int place, int n) {
        Night then = night.after(n);
        return then.train() == place && then.stands();
    }

    int feast(int place, int n) {
        if (place < 0 || place > 20 || n < 0 || n > 40) return BAD;
        if (noSleepers()) return STATE;
        if (standsThere(night(), place, n)) {
            asked = 0;
            return 0;
        }
        int size = night().ones().size();
        for (int a = 0; a < 10 * size; a++) {
            if (night().ones().get(a / 10).asleep() && standsThere(night().supper(a / 10, a % 10), place, n)) {
                asked = a;
                return 1;
            }
        }
        for (int a = 0; a < 10 * size; a++) {
            if (!night().ones().get(a / 10).asleep()) continue;
            Night byOne = night().supper(a / 10, a % 10);
            for (int b = a - a % 10 + 10; b < 10 * size; b++) {
                if (night().ones().get(b / 10).asleep() && standsThere(byOne.supper(b / 10, b % 10), place, n)) {
                    asked = 1000 * a + b;
                    return 2;
                }
            }
        }
        return NONE;
    }

    int bed(int i) {
        if (noSleeper(i)) return BAD;
        int most = 0;
        int best = 0;
        for (int place = night().last(); place >= 0; place--) {
            int many = minutesAt(night().place(i, place), place, 40);
            if (many >= most) {
                most = many;
                best = place;
            }
        }
        asked = most;
        return best;
    }

    private static boolean fits(Night night, int[] seen) {
        for (int place : seen) {
            night = night.next();
            if (night.train() != place) return false;
        }
        return true;
    }

    private int refusedSeen(int r) {
        if (rows[r] == null) return find(1);
        if (rows[r].length == 0 || rows[r].length > 20) return find(5);
        if (Arrays.stream(rows[r]).anyMatch(v -> v < 0 || v > night().last())) return find(3);
        return 0;
    }

    int account(int r) {
        if (r < 0 || r > 5) return BAD;
        if (noSleepers()) return STATE;
        int refused = refusedSeen(r);
        if (refused != 0) return refused;
        List<Integer> sets = new ArrayList<>();
        for (int set = 0; set < 1 << night().ones().size(); set++) {
            if (fits(night().justAsleep(set), rows[r])) sets.add(set);
        }
        if (sets.isEmpty()) return NONE;
        asked = sets.stream().reduce(63, (a, b) -> a & b);
        return sets.size();
    }

    /** Not of the face: places that would be seen, if just a set were asleep. */
    int[] placesToCome(int set, int n) {
        int[] places = new int[n];
        for (int m = 0; m < n; m++) places[m] = night().justAsleep(set).after(m + 1).train();
        return places;
    }

    int kinds(int i, int r) {
        if (noSleeper(i) || r < 0 || r > 5) return BAD;
        int refused = refusedSeen(r);
        if (refused != 0) return refused;
        int bits = 0;
        for (int kind = 0; kind < 6; kind++) if (fits(night().kind(i, kind), rows[r])) bits += 1 << kind;
        return bits;
    }

    int look(int i) {
        if (noSleeper(i)) return BAD;
        int least = 7;
        int best = 0;
        for (int m = 1; m <= 20; m++) {
            int[] alike = new int[21];
            for (int kind = 0; kind < 6; kind++) alike[night().kind(i, kind).after(m).train()]++;
            int part = Arrays.stream(alike).max().getAsInt();
            if (part < least) {
                least = part;
                best = m;
            }
        }
        asked = least;
        return best;
    }

    private static int play(Night night, int turn, int turns) {
        if (turn == turns) return night.after(20).train();
        boolean wakes = turn % 2 == 0;
        int best = play(night, turn + 1, turns);
        for (int i = 0; i < night.ones().size(); i++) {
            if (night.ones().get(i).asleep() == wakes) {
                int value = play(night.asleep(i, !wakes), turn + 1, turns);
                if (wakes ? value > best : value < best) best = value;
            }
        }
        return best;
    }

    int duel(int n) {
        if (n < 0 || n > 4) return BAD;
        if (noSleepers()) return STATE;
        return play(night(), 0, n);
    }

    /** The mean of what a night is worth: its place, or (v not below 0) whether it is as far on as v. */
    private static BigInteger weigh(Night night, int i, int n, int v, int p) {
        if (i == night.ones().size()) {
            int place = night.after(n).train();
            return BigInteger.valueOf(v < 0 ? place : place >= v ? 1 : 0);
        }
        if (!night.ones().get(i).asleep()) return weigh(night, i + 1, n, v, p);
        BigInteger woken = weigh(night.asleep(i, false), i + 1, n, v, p).multiply(BigInteger.valueOf(p));
        return woken.add(weigh(night, i + 1, n, v, p).multiply(BigInteger.valueOf(12 - p)));
    }

    private int tellPart(int n, int v, int p) {
        upper = weigh(night(), 0, n, v, p);
        lower = BigInteger.valueOf(12).pow(Integer.bitCount(asleepSet()));
        BigInteger divisor = upper.gcd(lower);
        upper = upper.divide(divisor);
        lower = lower.divide(divisor);
        return 1;
    }

    int odds(int n, int v, int p) {
        if (n < 0 || n > 30 || v < 0 || v > 20 || p < 0 || p > 12) return BAD;
        if (noSleepers()) return STATE;
        return tellPart(n, v, p);
    }

    int mid(int n, int p) {
        if (n < 0 || n > 30 || p < 0 || p > 12) return BAD;
        if (noSleepers()) return STATE;
        return tellPart(n, -1, p);
    }

    int lots(int n, int seed) {
        if (n < 1 || n > 20 || seed < 1 || seed > 2147483646) return BAD;
        if (noSleepers()) return STATE;
        if (deeds() + n > 40) return FULL;
        BigInteger lot = BigInteger.valueOf(seed);
        for (int d = 0; d < n; d++) {
            lot = lot.multiply(BigInteger.valueOf(48271)).mod(BigInteger.valueOf(2147483647));
            int x = lot.intValueExact();
            int who = (x / 8) % night().ones().size();
            if (x % 4 == 0) deed(night().asleep(who, !night().ones().get(who).asleep()));
            else if (x % 4 == 1) deed(night().supper(who, (x / 64) % 10));
            else deed(night().minute() == 99 ? night() : night().next());
        }
        return night().train();
    }

    int asked() {
        return asked;
    }

    long upper() {
        return upper.longValueExact();
    }

    long lower() {
        return lower.longValueExact();
    }

    int count(int what) {
        List<One> ones = night().ones();
        int dreaming = 0;
        for (int i = 0; i < ones.size(); i++) dreaming |= ofSleeper(i, 4) << i;
        return switch (what) {
            case 0 -> ones.size();
            case 1 -> night().last();
            case 2 -> deeds();
            case 3 -> night().minute();
            case 4 -> night().train();
            case 5 -> asleepSet();
            case 6 -> dreaming;
            case 7 -> night().due();
            case 8 -> (int) Arrays.stream(rows).filter(r -> r != null).count();
            case 9 -> (int) Arrays.stream(texts).filter(t -> t != null).count();
            case 10 -> (int) kept.stream().filter(k -> k != null).count();
            case 11 -> (int) ones.stream().filter(o -> KINDS.get(o.kind()) instanceof Cheese).count();
            default -> BAD;
        };
    }

    int finding() {
        return found.isEmpty() ? 0 : found.get(found.size() - 1);
    }

    int findings(int f) {
        return f < 1 || f > 5 ? BAD : (int) found.stream().filter(x -> x == f).count();
    }

    long digest() {
        List<Integer> all = new ArrayList<>();
        for (int what = 0; what <= 11; what++) all.add(count(what));
        for (int i = 0; i < night().ones().size(); i++) {
            for (int what = 0; what <= 4; what++) all.add(ofSleeper(i, what));
        }
        for (List<Night> k : kept) all.add(k == null ? -1 : k.size() - 1);
        for (int[] r : rows) {
            all.add(r == null ? -1 : r.length);
            if (r != null) for (int v : r) all.add(v);
        }
        for (byte[] t : texts) {
            all.add(t == null ? -1 : t.length);
            if (t != null) for (byte v : t) all.add((int) v);
        }
        long h = 17;
        for (int v : all) h = 31 * h + v;
        return h;
    }
}
