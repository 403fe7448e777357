import java.util.ArrayList;
import java.util.Arrays;
import java.util.LinkedHashMap;
import java.util.List;
import java.util.Map;
import java.util.Random;

/** Compares every call of seeded random runs with PlainTrain. */
public final class ModelTest {
    private static final int RUNS = 3000, STEPS = 70, TEXTS = 4000, CROWDS = 1500;
    private static final int[] WILD = {-1, 0, 1, 7, 21, 41, 61, 100, Integer.MAX_VALUE, Integer.MIN_VALUE, -40, 1 << 30};
    /** Of each call: the least and the greatest of each of its numbers that is mostly taken. */
    static final Map<String, int[][]> RANGES = new LinkedHashMap<>();

    static {
        range("row", 0, 5, 0, 22);
        range("lay", 0, 5, 0, 12, -3, 22);
        range("at", 0, 5, 0, 12);
        range("tear", 0, 5);
        range("copy", 0, 5, 0, 8, 0, 5, 0, 8, 0, 8);
        range("mean", 0, 5);
        range("text", 0, 3, 0, 40);
        range("put", 0, 3, 0, 30, 0, 127);
        range("fault", 0, 3);
        range("line", 0, 3);
        range("sleeper", 0, 5, 0, 4);
        range("mark", 0, 5, 1, 5);
        range("dreams", 0, 5, 0, 99);
        range("minute");
        range("feed", 0, 5, 0, 9);
        range("wake", 0, 5);
        range("lull", 0, 5);
        range("undo", 0, 20);
        range("keep", 0, 2);
        range("on", 0, 2);
        range("train", 0, 60);
        range("comes");
        range("stood", 0, 5);
        range("intime");
        range("feast", 0, 20, 0, 40);
        range("bed", 0, 5);
        range("account", 0, 5);
        range("kinds", 0, 5, 0, 5);
        range("look", 0, 5);
        range("duel", 0, 4);
        range("odds", 0, 30, 0, 20, 0, 12);
        range("mid", 0, 30, 0, 12);
        range("lots", 1, 20, 1, 2147483646);
        range("count", 0, 11);
        range("findings", 1, 5);
        range("digest");
    }

    private static void range(String name, int... bounds) {
        int[][] pairs = new int[bounds.length / 2][];
        for (int i = 0; i < pairs.length; i++) {
            pairs[i] = new int[] {bounds[2 * i], bounds[2 * i + 1]};
        }
        RANGES.put(name, pairs);
    }

    private final Check check = new Check("ModelTest");
    private final Random random = new Random(20261118);
    private final List<String> names = new ArrayList<>(RANGES.keySet());
    private DreamTrain x;
    private PlainTrain plain;

    public static void main(String[] args) {
        ModelTest test = new ModelTest();
        for (int run = 0; run < RUNS; run++) {
            test.run(run);
        }
        test.faults();
        test.crowds();
        test.check.end();
    }

    /** Lines with many in few places, where feasts of two and beds alike are not rare. */
    private void crowds() {
        for (int crowd = 0; crowd < CROWDS; crowd++) {
            x = new DreamTrain();
            plain = new PlainTrain();
            StringBuilder words = new StringBuilder(String.format("n%02d40", random.nextInt(5, 21)));
            for (int i = 0; i < 6; i++) {
                words.append("scbigl".charAt(random.nextInt(6)));
                words.append(String.format("%02d%d", random.nextInt(3), random.nextInt(10)));
            }
            write(0, words.toString());
            call("line", 0);
            for (int place = 0; place < 3; place++) {
                call("feast", place, place + random.nextInt(12));
                call("asked");
            }
            call("bed", random.nextInt(6));
            call("asked");
        }
    }

    private void faults() {
        x = new DreamTrain();
        plain = new PlainTrain();
        for (int text = 0; text < TEXTS; text++) {
            StringBuilder words = new StringBuilder(words());
            for (int change = random.nextInt(3); change > 0; change--) {
                words.setCharAt(random.nextInt(words.length()), " n0123456789scbiglx".charAt(random.nextInt(19)));
            }
            words.setLength(random.nextInt(4) == 0 ? random.nextInt(words.length()) : words.length());
            write(text % 4, words.toString());
            call("line", text % 4);
        }
    }

    private void run(int run) {
        x = new DreamTrain();
        plain = new PlainTrain();
        if (run % 20 != 0) {
            write(0, words());
            call("line", 0);
        }
        for (int step = 0; step < STEPS; step++) {
            if (step % 10 == 4 && plain.count(0) > 0) {
                see();
            }
            step();
        }
        call("digest");
    }

    private void step() {
        String name = names.get(random.nextInt(names.size()));
        if (name.equals("text") && random.nextInt(3) > 0) {
            name = "minute";
        }
        if (name.equals("line") && random.nextInt(6) > 0) {
            name = "wake";
        }
        int[][] ranges = RANGES.get(name);
        int[] args = new int[ranges.length];
        for (int i = 0; i < args.length; i++) {
            args[i] = random.nextInt(25) == 0
                    ? WILD[random.nextInt(WILD.length)]
                    : random.nextInt(ranges[i][0], ranges[i][1]) + random.nextInt(2);
        }
        call(name, args);
        checkTold(name + Arrays.toString(args));
    }

    private void checkTold(String call) {
        check.due(call + ", then asked()", x.asked(), plain.asked());
        check.due(call + ", then upper()", x.upper(), plain.upper());
        check.due(call + ", then lower()", x.lower(), plain.lower());
        check.due(call + ", then finding()", x.finding(), plain.finding());
    }

    private void call(String name, int... args) {
        long got = Bounds.answer(x, name, args);
        long want = Bounds.answer(plain, name, args);
        check.due(name + Arrays.toString(args), got, want);
    }

    /** Lays a row of places that would be seen, or nearly so, and asks about it. */
    private void see() {
        int set = random.nextInt(64);
        int[] places = plain.placesToCome(set, random.nextInt(1, 8));
        if (random.nextInt(6) == 0) {
            places[random.nextInt(places.length)]++;
        }
        int r = random.nextInt(6);
        call("row", r, places.length);
        for (int i = 0; i < places.length; i++) {
            call("lay", r, i, places[i]);
        }
        call("account", r);
        call("kinds", random.nextInt(plain.count(0)), r);
    }

    private void write(int t, String words) {
        call("text", t, words.length());
        for (int i = 0; i < words.length(); i++) {
            if (words.charAt(i) != ' ') {
                call("put", t, i, words.charAt(i));
            }
        }
        call("fault", t);
    }

    private String words() {
        int last = random.nextInt(5, 21);
        StringBuilder out = new StringBuilder(blanks());
        out.append(String.format("n%02d%02d", last, random.nextInt(61)));
        int sleepers = random.nextInt(1, 7);
        int crowd = random.nextInt(1, last + 2);
        for (int i = 0; i < sleepers; i++) {
            char letter = "scbigl".charAt(random.nextInt(6));
            int place = random.nextInt(crowd);
            out.append(blanks()).append(letter).append(String.format("%02d%d", place, random.nextInt(10)));
        }
        out.append(blanks());
        if (random.nextInt(12) == 0) {
            out.setCharAt(random.nextInt(out.length()), (char) random.nextInt(128));
        }
        return out.toString();
    }

    private String blanks() {
        return " ".repeat(random.nextInt(3));
    }
}
