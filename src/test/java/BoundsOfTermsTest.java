import java.util.List;
import java.util.function.Supplier;

/** Boundary cases of what the document says ahead of the promises: its terms. */
public final class BoundsOfTermsTest extends Bounds {
    private static final int CALLS = 512;

    public static void main(String[] args) throws ReflectiveOperationException {
        run(BoundsOfTermsTest.class, 0, 0);
    }

    /** So that a call which changes something by mistake is seen, the states have something of all. */
    static void termsTheStatesAreNotTrivial() {
        DreamTrain x = States.busy();
        due(-5, x, "asked");
        same("upper()", x.upper(), 95);
        same("lower()", x.lower(), 144);
        due(NOUGHT, x, "finding");
        int[] counts = {6, 10, 7, 3, 2, 0b101111, 0b100010, 22, 5, 3, 2, 2};
        for (int what = 0; what < counts.length; what++) {
            due(counts[what], x, "count", what);
        }
        due(40, States.full(), "count", 2);
    }

    // ---- what is refused, in which order

    static void termsBadAheadOfFull() {
        bad(States::full, "feed", 6, 0);
        bad(States::full, "feed", 0, 10);
        bad(States::full, "wake", 6);
        bad(States::full, "lull", -1);
        bad(States::full, "lots", 21, 1);
        bad(States::full, "lots", 1, 0);
    }

    static void termsBadAheadOfState() {
        bad(States::fresh, "keep", 3);
        bad(States::fresh, "train", 61);
        bad(States::fresh, "feast", 0, 41);
        bad(States::fresh, "account", 6);
        bad(States::fresh, "duel", 5);
        bad(States::fresh, "odds", 0, 0, 13);
        bad(States::fresh, "mid", 0, 13);
        bad(States::fresh, "lots", 0, 1);
    }

    static void termsBadAheadOfFinding() {
        bad(States::busy, "row", 6, -1);
        bad(States::busy, "copy", 6, -1, 5, 99, -1);
        bad(States::busy, "text", 4, -1);
        bad(States::busy, "mark", 6, 4);
        bad(States::busy, "kinds", 6, 5);
    }

    static void termsStateAheadOfFinding() {
        refused(STATE, States::laid, "account", 5);
        refused(STATE, States::laid, "account", 1);
        refused(STATE, States::laid, "account", 0);
    }

    static void termsStateBehindNothingInLine() {
        finds(NOTHING, States::busy, "line", 3);
        refused(STATE, States::busy, "line", 2);
    }

    static void termsFullLastWhereACallSaysSo() {
        refused(STATE, States::full, "wake", 4);
        refused(STATE, States::full, "lull", 0);
        refused(STATE, () -> States.inMinute(States.full(), 99), "minute");
    }

    // ---- findings

    static void termsNothingIsARowATextAKeptLine() {
        finds(NOTHING, States::busy, "tear", 5);
        finds(NOTHING, States::busy, "fault", 3);
        finds(NOTHING, States::busy, "on", 1);
    }

    static void termsBeyondIsAPlaceThatThereIsNot() {
        finds(BEYOND, States::busy, "at", 0, 3);
        finds(BEYOND, States::busy, "put", 1, 0, 65);
        finds(BEYOND, States::busy, "copy", 0, 0, 0, 1, 3);
    }

    static void termsUnlikeIsAKindOrANumber() {
        finds(UNLIKE, States::busy, "mark", 0, 1);
        finds(UNLIKE, States::busy, "account", 0);
        finds(UNLIKE, States::busy, "kinds", 0, 0);
    }

    static void termsNoughtIsSharedAmongNone() {
        finds(NOUGHT, States::busy, "mean", 1);
    }

    static void termsSizeIsFewerThanNoneOrNotAsManyAsDue() {
        finds(SIZE, States::busy, "row", 0, -1);
        finds(SIZE, States::busy, "text", 0, -1);
        finds(SIZE, States::busy, "copy", 0, 0, 0, 0, -1);
        finds(SIZE, States::busy, "account", 1);
        finds(SIZE, States::busy, "account", 4);
    }

    // ---- chances, sets

    static void termsTheLowerNumberIsAbove0() {
        part(0, 1, Check.lineOf("n0500s000"), "odds", 1, 1, 0);
        part(0, 1, Check.lineOf("n0500s000"), "mid", 0, 0);
        part(0, 1, Check.lineOf("n0500s000"), "odds", 30, 20, 12);
    }

    static void termsSetsAreToldByBits() {
        DreamTrain x = Check.lineOf("n0500s000s002s000s002s002s000");
        due(63, x, "count", 5);
        due(0b100101, x, "count", 6);
    }

    // ---- asides

    /** All that can be seen but what is told: by asked(), upper(), lower(), the first of a probe's looks. */
    private static void doesNothingElse(Supplier<DreamTrain> state, String name, int... args) {
        DreamTrain x = state.get();
        DreamTrain twin = state.get();
        same(words(name, args) + " is refused", answer(x, name, args) < 0 ? 1 : 0, 0);
        due(twin.finding(), x, "finding");
        long[] got = Probe.of(x);
        long[] want = Probe.of(twin);
        same(words(name, args) + ", then how much there is to see", got.length, want.length);
        for (int i = 3; i < Math.min(got.length, want.length); i++) {
            same(words(name, args) + ", then look " + i + " of Probe", got[i], want[i]);
        }
    }

    static void termsAsidesDoNothingElse() {
        Supplier<DreamTrain> state = () -> {
            DreamTrain x = States.busy();
            Check.fill(x, 0, 3, 3);
            return x;
        };
        doesNothingElse(state, "train", 60);
        doesNothingElse(state, "comes");
        doesNothingElse(state, "intime");
        doesNothingElse(state, "feast", 10, 40);
        doesNothingElse(state, "account", 0);
        for (int i = 0; i <= 5; i++) {
            doesNothingElse(state, "stood", i);
            doesNothingElse(state, "bed", i);
            doesNothingElse(state, "kinds", i, 0);
            doesNothingElse(state, "look", i);
        }
        for (int n = 0; n <= 4; n++) {
            doesNothingElse(state, "duel", n);
        }
        doesNothingElse(state, "odds", 30, 10, 6);
        doesNothingElse(state, "mid", 30, 6);
    }

    static void termsAsidesByOneOrTwoSuppersDoNothingElse() {
        doesNothingElse(States.line("n0500s000s000"), "feast", 0, 3);
        doesNothingElse(States.line("n0500s003s012"), "feast", 1, 3);
        doesNothingElse(States.line("n0506s050s000s000"), "intime");
    }

    // ---- the line, the train

    static void termsALineIsWithoutSleepersAtFirst() {
        for (Supplier<DreamTrain> state : List.<Supplier<DreamTrain>>of(States::fresh, States::laid)) {
            due(0, state.get(), "count", 0);
            due(0, state.get(), "count", 1);
            refused(STATE, state, "keep", 0);
        }
    }

    static void termsMinute0Place0AllAsleepAtFirst() {
        DreamTrain x = Check.lineOf(States.WORDS);
        due(0, x, "count", 2);
        due(0, x, "count", 3);
        due(0, x, "count", 4);
        due(63, x, "count", 5);
    }

    static void termsEachDeedIsOne() {
        DreamTrain x = Check.lineOf(States.WORDS);
        x.minute();
        due(1, x, "count", 2);
        x.feed(0, 1);
        due(2, x, "count", 2);
        x.wake(0);
        due(3, x, "count", 2);
        x.lull(0);
        due(4, x, "count", 2);
        x.lots(20, 1);
        due(24, x, "count", 2);
    }

    static void termsFortyDeedsOfEachSort() {
        String[] names = {"minute", "feed", "lots"};
        int[][] args = {{}, {0, 1}, {1, 1}};
        for (int sort = 0; sort < names.length; sort++) {
            DreamTrain x = Check.lineOf(States.WORDS);
            for (int d = 0; d < 40; d++) {
                same(words(names[sort], args[sort]) + " is refused", answer(x, names[sort], args[sort]) < 0 ? 1 : 0, 0);
            }
            due(FULL, x, names[sort], args[sort]);
            due(40, x, "count", 2);
        }
        DreamTrain x = Check.lineOf(States.WORDS);
        for (int d = 0; d < 20; d++) {
            due(1, x, "wake", 0);
            due(1, x, "lull", 0);
        }
        due(FULL, x, "wake", 0);
        due(63, x, "count", 5);
    }

    // ---- calls

    static void termsThe512thCallIsAnswered() {
        DreamTrain x = new DreamTrain();
        x.row(0, 1);
        for (int call = 2; call <= CALLS - 2; call++) {
            x.lay(0, 0, call);
        }
        tells(CALLS - 2, x, "at", 0, 0);
        DreamTrain found = new DreamTrain();
        for (int call = 1; call <= CALLS - 1; call++) {
            found.tear(0);
        }
        due(CALLS - 1, found, "findings", NOTHING);
    }

    static void termsTheConstants() {
        same("BAD", DreamTrain.BAD, -1);
        same("FULL", DreamTrain.FULL, -2);
        same("FINDING", DreamTrain.FINDING, -3);
        same("STATE", DreamTrain.STATE, -4);
        same("SPENT", DreamTrain.SPENT, -6);
        same("NONE", DreamTrain.NONE, -9);
    }
}
