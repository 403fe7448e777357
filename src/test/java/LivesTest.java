import java.util.ArrayList;
import java.util.List;
import java.util.Random;

/**
 * Objects that are used for all of the 512 calls that the document grants: each answer is as PlainTrain
 * tells, and the same calls of another object, with a third one in use between them, answer the same.
 */
public final class LivesTest {
    private static final int CALLS = 512, LIVES = 200;
    private static final String[] TOLD = {"asked", "upper", "lower", "finding"};
    private static final int[] WILD = {Integer.MIN_VALUE, -1, 6, 13, 21, 41, 61, 100, Integer.MAX_VALUE};

    private record Call(String name, int... args) {
        long on(Object x) {
            return Bounds.answer(x, name, args);
        }
    }

    private final Check check = new Check("LivesTest");
    private final Random random = new Random(512);
    private final List<String> names = new ArrayList<>(ModelTest.RANGES.keySet());

    public static void main(String[] args) {
        LivesTest test = new LivesTest();
        for (int life = 0; life < LIVES; life++) {
            test.live(life);
        }
        test.check.end();
    }

    private void live(int life) {
        List<Call> calls = calls();
        DreamTrain x = new DreamTrain();
        PlainTrain plain = new PlainTrain();
        long[] answers = new long[CALLS];
        for (int c = 0; c < CALLS; c++) {
            answers[c] = calls.get(c).on(x);
            check.due(where(life, c, calls), answers[c], calls.get(c).on(plain));
        }
        DreamTrain again = new DreamTrain();
        DreamTrain other = new DreamTrain();
        for (int c = 0; c < CALLS; c++) {
            calls.get(CALLS - 1 - c).on(other);
            check.due(where(life, c, calls) + ", once more", calls.get(c).on(again), answers[c]);
        }
    }

    private static String where(int life, int c, List<Call> calls) {
        return "life " + life + ", call " + (c + 1) + ", " + Bounds.words(calls.get(c).name(), calls.get(c).args());
    }

    /** A line at first and again in the midst, and between these whatever comes. */
    private List<Call> calls() {
        List<Call> calls = new ArrayList<>();
        while (calls.size() < CALLS) {
            if (calls.isEmpty() || random.nextInt(150) == 0) {
                addLine(calls);
            }
            calls.add(any());
            if (random.nextInt(2) == 0) {
                calls.add(new Call(TOLD[random.nextInt(TOLD.length)]));
            }
        }
        calls.subList(CALLS - 1, calls.size()).clear();
        calls.add(new Call("digest"));
        return calls;
    }

    private Call any() {
        String name = names.get(random.nextInt(names.size()));
        int[][] ranges = ModelTest.RANGES.get(name);
        int[] args = new int[ranges.length];
        for (int i = 0; i < args.length; i++) {
            args[i] = random.nextInt(30) == 0
                    ? WILD[random.nextInt(WILD.length)]
                    : ranges[i][0] + (int) (random.nextDouble() * (ranges[i][1] - ranges[i][0] + 1.0));
        }
        return new Call(name, args);
    }

    private void addLine(List<Call> calls) {
        int last = 5 + random.nextInt(16);
        StringBuilder words = new StringBuilder(String.format("n%02d%02d", last, random.nextInt(61)));
        for (int i = random.nextInt(6); i >= 0; i--) {
            words.append("scbigl".charAt(random.nextInt(6)));
            words.append(String.format("%02d%d", random.nextInt(last + 1), random.nextInt(10)));
        }
        int t = random.nextInt(4);
        calls.add(new Call("text", t, words.length()));
        for (int i = 0; i < words.length(); i++) {
            calls.add(new Call("put", t, i, words.charAt(i)));
        }
        calls.add(new Call("fault", t));
        calls.add(new Call("line", t));
    }
}
