import java.util.ArrayList;
import java.util.LinkedHashMap;
import java.util.List;
import java.util.Map;
import java.util.TreeSet;

/**
 * Every call with all its arguments at their bounds, one step to either side of them, and at both ends of
 * the ints, in states that are at bounds themselves (nothing there; no line; one sleeper; six; 20, 21, 39
 * and 40 deeds): the answer, and all that can be seen then, is as PlainTrain tells.
 */
public final class SweepTest {
    private static final int MIN = Integer.MIN_VALUE, MAX = Integer.MAX_VALUE;
    private static final int COUNTS = 12;

    private record Call(String name, int... args) {
        long on(Object x) {
            return Bounds.answer(x, name, args);
        }

        @Override
        public String toString() {
            return Bounds.words(name, args);
        }
    }

    private final Check check = new Check("SweepTest");
    private final Map<String, int[][]> bounds = new LinkedHashMap<>();
    private DreamTrain x;
    private PlainTrain plain;

    public static void main(String[] args) {
        SweepTest test = new SweepTest();
        test.nameBounds();
        test.states().forEach(test::sweep);
        test.check.end();
    }

    /** Of each argument: the least and the greatest that is taken, perhaps more numbers between. */
    private void nameBounds() {
        int[] row = {0, 1, 2, 3, 4, 5};
        int[] text = {0, 1, 2, 3};
        int[] who = {0, 5};
        bound("row", row, new int[] {0, 40});
        bound("lay", row, new int[] {0, 2, 39}, new int[] {7});
        bound("at", row, new int[] {0, 2, 39});
        bound("tear", row);
        bound("mean", row);
        bound("text", text, new int[] {0, 60});
        bound("put", text, new int[] {0, 34, 59}, new int[] {-128, 127});
        bound("fault", text);
        bound("line", text);
        bound("sleeper", who, new int[] {0, 1, 2, 3, 4});
        bound("mark", new int[] {0, 1, 2, 3, 4, 5}, new int[] {1, 2, 3, 4, 5});
        bound("dreams", new int[] {0, 1, 2, 3, 4, 5}, new int[] {0, 20, 30, 99});
        bound("minute");
        bound("feed", who, new int[] {0, 9});
        bound("wake", new int[] {0, 4, 5});
        bound("lull", new int[] {0, 4, 5});
        bound("undo", new int[] {0, 7, 20, 40});
        bound("keep", new int[] {0, 2});
        bound("on", new int[] {0, 2});
        bound("train", new int[] {0, 60});
        bound("comes");
        bound("stood", new int[] {0, 1, 2, 3, 4, 5});
        bound("intime");
        bound("feast", new int[] {0, 10, 20}, new int[] {0, 40});
        bound("bed", new int[] {0, 1, 2, 3, 4, 5});
        bound("account", row);
        bound("kinds", who, row);
        bound("look", new int[] {0, 1, 2, 3, 4, 5});
        bound("duel", new int[] {0, 1, 2, 3, 4});
        bound("odds", new int[] {0, 30}, new int[] {0, 10, 20}, new int[] {0, 12});
        bound("mid", new int[] {0, 30}, new int[] {0, 12});
        bound("lots", new int[] {1, 20}, new int[] {1, MAX - 1});
        bound("asked");
        bound("upper");
        bound("lower");
        bound("count", new int[] {0, 11});
        bound("finding");
        bound("findings", new int[] {1, 5});
        bound("digest");
    }

    /** With one step to either side of each, and both ends of the ints. */
    private void bound(String name, int[]... args) {
        int[][] wider = new int[args.length][];
        for (int i = 0; i < args.length; i++) {
            TreeSet<Integer> numbers = new TreeSet<>(List.of(MIN, MAX));
            for (int bound : args[i]) {
                numbers.addAll(List.of(bound - 1, bound, bound + 1));
            }
            wider[i] = numbers.stream().mapToInt(n -> n).toArray();
        }
        bounds.put(name, wider);
    }

    private Map<String, List<Call>> states() {
        Map<String, List<Call>> states = new LinkedHashMap<>();
        states.put("nothing", List.of());
        states.put("no line", laid());
        states.put("one sleeper", with(laid(), line("n0500s002")));
        states.put("six sleepers", with(laid(), line(States.WORDS)));
        for (int deeds : new int[] {7, 20, 21, 39, 40}) {
            states.put(deeds + " deeds", busy(deeds));
        }
        return states;
    }

    private static List<Call> with(List<Call> calls, List<Call> more) {
        List<Call> all = new ArrayList<>(calls);
        all.addAll(more);
        return all;
    }

    private static List<Call> line(String words) {
        List<Call> calls = new ArrayList<>(List.of(new Call("text", 0, words.length())));
        for (int i = 0; i < words.length(); i++) {
            calls.add(new Call("put", 0, i, words.charAt(i)));
        }
        calls.add(new Call("line", 0));
        return calls;
    }

    /** Rows of three, none, forty, twenty places and twenty-one, one missing; texts of none, of a fault, one missing. */
    private static List<Call> laid() {
        return List.of(
                new Call("row", 0, 3), new Call("lay", 0, 0, 3), new Call("lay", 0, 2, -1), new Call("row", 1, 0),
                new Call("row", 2, 40), new Call("lay", 2, 0, MIN), new Call("lay", 2, 39, MAX),
                new Call("row", 3, 20), new Call("row", 4, 21), new Call("text", 1, 0), new Call("text", 2, 60),
                new Call("tear", 5), new Call("at", 0, 2));
    }

    private static List<Call> busy(int deeds) {
        List<Call> calls = new ArrayList<>(with(laid(), line(States.WORDS)));
        calls.addAll(List.of(
                new Call("minute"), new Call("feed", 1, 9), new Call("keep", 0), new Call("wake", 2),
                new Call("minute"), new Call("keep", 2), new Call("lull", 2), new Call("wake", 4), new Call("minute"),
                new Call("odds", 6, 5, 5), new Call("at", 0, 2)));
        for (int d = States.DEEDS_OF_BUSY; d < deeds; d++) {
            calls.add(new Call("minute"));
        }
        return calls;
    }

    private void sweep(String state, List<Call> before) {
        for (Call call : allCalls()) {
            begin(before);
            askBoth(state, call);
            lookAll(state + ", " + call);
        }
        sweepCopy(state, before);
    }

    private void begin(List<Call> before) {
        x = new DreamTrain();
        plain = new PlainTrain();
        for (Call call : before) {
            call.on(x);
            call.on(plain);
        }
    }

    private void askBoth(String state, Call call) {
        check.due(state + ", " + call, call.on(x), call.on(plain));
    }

    private List<Call> allCalls() {
        List<Call> calls = new ArrayList<>();
        bounds.forEach((name, args) -> addCalls(calls, name, args, new int[args.length], 0));
        return calls;
    }

    private static void addCalls(List<Call> calls, String name, int[][] choices, int[] args, int next) {
        if (next == choices.length) {
            calls.add(new Call(name, args.clone()));
            return;
        }
        for (int choice : choices[next]) {
            args[next] = choice;
            addCalls(calls, name, choices, args, next + 1);
        }
    }

    /** There are so many of these that they are all done in one state, and looked at by the digest alone. */
    private void sweepCopy(String state, List<Call> before) {
        int[] rows = {-1, 0, 1, 2, 5, 6};
        int[] places = {MIN, -1, 0, 1, 3, 39, 40, 41, MAX};
        int[] many = {MIN, -1, 0, 1, 2, 3, 40, 41, MAX};
        List<Call> calls = new ArrayList<>();
        addCalls(calls, "copy", new int[][] {rows, places, rows, places, many}, new int[5], 0);
        begin(before);
        for (Call call : calls) {
            askBoth(state, call);
            check.due(state + ", " + call + ", then finding()", x.finding(), plain.finding());
            check.due(state + ", " + call + ", then digest()", x.digest(), plain.digest());
        }
    }

    private void lookAll(String where) {
        check.due(where + ", then asked()", x.asked(), plain.asked());
        check.due(where + ", then upper()", x.upper(), plain.upper());
        check.due(where + ", then lower()", x.lower(), plain.lower());
        check.due(where + ", then finding()", x.finding(), plain.finding());
        for (int f = 1; f <= 5; f++) {
            check.due(where + ", then findings(" + f + ")", x.findings(f), plain.findings(f));
        }
        for (int what = 0; what < COUNTS; what++) {
            check.due(where + ", then count(" + what + ")", x.count(what), plain.count(what));
        }
        lookBack(where);
        for (int k = 0; k < 3; k++) {
            check.due(where + ", then on(" + k + ")", x.on(k), plain.on(k));
            lookBack(where + ", on(" + k + ")");
        }
    }

    private void lookBack(String where) {
        for (int n = plain.count(2); n >= 0; n -= Math.max(1, n / 4)) {
            check.due(where + ", then undo(" + n + ")", x.undo(n), plain.undo(n));
            check.due(where + ", then digest()", x.digest(), plain.digest());
            if (n == 0) {
                return;
            }
        }
    }
}
