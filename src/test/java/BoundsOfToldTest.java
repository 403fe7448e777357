import java.util.LinkedHashMap;
import java.util.Map;
import java.util.function.Supplier;
import java.util.stream.LongStream;

/** Boundary cases of promises 35 to 41: asked, upper, lower, count, finding, findings, digest. */
public final class BoundsOfToldTest extends Bounds {
    public static void main(String[] args) throws ReflectiveOperationException {
        run(BoundsOfToldTest.class, 35, 41);
    }

    // ---- promise 35

    static void promise35ZeroBefore() {
        due(0, new DreamTrain(), "asked");
        DreamTrain x = Check.lineOf(States.WORDS);
        due(0, x, "asked");
    }

    static void promise35EachCallThatTells() {
        DreamTrain x = Check.lineOf("n0507s000s043");
        Check.fill(x, 0, 5, 6);
        Check.fill(x, 1, 0);
        tells(5, x, "lay", 0, 0, 7);
        tells(6, x, "at", 0, 1);
        tells(4, x, "sleeper", 1, 1);
        dueAndTold(5, 55, x, "train", 60);
        tells(6, x, "mean", 0);
        dueAndTold(7, 7, x, "comes");
        dueAndTold(0, 0, x, "intime");
        dueAndTold(5, 34, x, "bed", 0);
        dueAndTold(0, 0, x, "feast", 0, 0);
        dueAndTold(3, 3, x, "look", 0);
        dueAndTold(2, 1, x, "account", 1);
    }

    static void promise35NotWhatIsRefused() {
        DreamTrain x = States.busy();
        int[] refusals = {
            x.lay(6, 0, 1), x.lay(5, 0, 1), x.lay(0, 3, 1), x.at(6, 0), x.at(5, 0), x.at(0, 3),
            x.mean(6), x.mean(5), x.mean(1), x.sleeper(6, 0), x.sleeper(0, 5), x.train(61), x.feast(21, 0),
            x.bed(6), x.account(6), x.account(5), x.account(1), x.account(0), x.look(6),
        };
        for (int refusal : refusals) {
            same("refused", refusal < 0 ? 1 : 0, 1);
        }
        due(-5, x, "asked");
        dueAndTold(STATE, 0, new DreamTrain(), "comes");
        dueAndTold(STATE, 0, new DreamTrain(), "intime");
    }

    static void promise35NotWhatIsAnsweredNone() {
        Supplier<DreamTrain> state = () -> {
            DreamTrain x = States.seen("n2000c000c004", 2).get();
            x.sleeper(1, 2);
            return x;
        };
        refused(NONE, state, "comes");
        refused(NONE, state, "intime");
        refused(NONE, state, "feast", 1, 0);
        refused(NONE, state, "account", 0);
        due(4, state.get(), "asked");
    }

    static void promise35NotByOtherCalls() {
        Map<String, int[]> others = new LinkedHashMap<>();
        others.put("row", new int[] {0, 1});
        others.put("tear", new int[] {0});
        others.put("copy", new int[] {2, 0, 2, 1, 1});
        others.put("text", new int[] {0, 1});
        others.put("put", new int[] {0, 0, 1});
        others.put("fault", new int[] {0});
        others.put("line", new int[] {0});
        others.put("mark", new int[] {1, 1});
        others.put("dreams", new int[] {0, 0});
        others.put("minute", new int[] {});
        others.put("feed", new int[] {0, 1});
        others.put("wake", new int[] {0});
        others.put("lull", new int[] {4});
        others.put("undo", new int[] {0});
        others.put("keep", new int[] {1});
        others.put("on", new int[] {2});
        others.put("stood", new int[] {0});
        others.put("kinds", new int[] {0, 3});
        others.put("duel", new int[] {4});
        others.put("odds", new int[] {3, 2, 1});
        others.put("mid", new int[] {3, 2});
        others.put("lots", new int[] {3, 4});
        others.put("upper", new int[] {});
        others.put("lower", new int[] {});
        others.put("count", new int[] {1});
        others.put("finding", new int[] {});
        others.put("findings", new int[] {1});
        others.put("digest", new int[] {});
        others.forEach((name, args) -> {
            DreamTrain x = States.busy();
            long got = answer(x, name, args);
            same(words(name, args) + " is refused", got == BAD || got == STATE || got == FULL || got == DreamTrain.FINDING ? 1 : 0, 0);
            same(words(name, args) + ", then asked()", x.asked(), -5);
        });
        same("other calls", others.size(), 40 - 11 - 1);
    }

    static void promise35AnyInt() {
        DreamTrain x = States.busy();
        tells(MIN, x, "at", 2, 0);
        due(MIN, x, "asked");
        tells(MAX, x, "at", 2, 39);
        due(MAX, x, "asked");
        due(MAX, x, "asked");
    }

    // ---- promises 36, 37

    static void promise36ZeroBefore() {
        due(0, new DreamTrain(), "upper");
        due(0, Check.lineOf(States.WORDS), "upper");
    }

    static void promise37OneBefore() {
        due(1, new DreamTrain(), "lower");
        due(1, Check.lineOf(States.WORDS), "lower");
    }

    static void promise36And37AreOfTheSamePart() {
        DreamTrain x = Check.lineOf("n0500s000");
        part(2, 3, x, "odds", 1, 1, 8);
        part(1, 2, x, "mid", 2, 3);
        part(0, 1, x, "odds", 1, 2, 8);
        part(5, 1, x, "mid", 30, 8);
    }

    private static void staysTold(Supplier<DreamTrain> state, String name, int... args) {
        DreamTrain x = state.get();
        DreamTrain twin = state.get();
        answer(x, name, args);
        same(words(name, args) + ", then upper()", x.upper(), twin.upper());
        same(words(name, args) + ", then lower()", x.lower(), twin.lower());
        same("a part was told", twin.upper() > 0 && twin.lower() > 1 ? 1 : 0, 1);
    }

    static void promise36NotWhatIsRefused() {
        staysTold(States::busy, "odds", 31, 0, 0);
        staysTold(States::busy, "odds", 0, 21, 0);
        staysTold(States::busy, "odds", 0, 0, 13);
        staysTold(States::busy, "mid", 31, 0);
        staysTold(States::busy, "mid", 0, 13);
    }

    static void promise37NotByOtherCalls() {
        staysTold(States::busy, "line", 0);
        staysTold(States::busy, "on", 0);
        staysTold(States::busy, "undo", 0);
        staysTold(States::busy, "mean", 0);
        staysTold(States::busy, "duel", 4);
        staysTold(States::busy, "lots", 3, 4);
    }

    // ---- promise 38

    static void promise38WhatIs0To11() {
        bounds(States::fresh, 0, 0, 11, "count", 0);
        bounds(States::busy, 0, 0, 11, "count", 0);
        bounds(States::full, 0, 0, 11, "count", 0);
    }

    static void promise38WithoutSleepers() {
        int[] want = {0, 0, 0, 0, 0, 0, 0, 0, 5, 3, 0, 0};
        for (int what = 0; what <= 11; what++) {
            due(0, new DreamTrain(), "count", what);
            due(want[what], States.laid(), "count", what);
        }
    }

    static void promise38TheMostOfEach() {
        DreamTrain x = Check.lineOf("n2060g000c001g002c003g003c002");
        for (int r = 0; r <= 5; r++) {
            x.row(r, 40);
        }
        for (int t = 1; t <= 3; t++) {
            x.text(t, 60);
        }
        for (int k = 0; k <= 2; k++) {
            x.keep(k);
        }
        int[] want = {6, 20, 0, 0, 0, 63, 63, 60, 6, 4, 3, 6};
        for (int what = 0; what <= 11; what++) {
            due(want[what], x, "count", what);
        }
        Check.pass(x, 40);
        due(40, x, "count", 2);
        due(40, x, "count", 3);
    }

    static void promise38TheLastPlace() {
        DreamTrain x = Check.lineOf("n0500s000");
        due(5, x, "count", 1);
        due(0, x, "count", 7);
        Check.pass(x, 7);
        due(5, x, "count", 4);
    }

    static void promise38WhoIsAsleepAndWhoDreams() {
        DreamTrain x = Check.lineOf("n0500s000s002s001i000c003c004");
        due(63, x, "count", 5);
        due(0b010101, x, "count", 6);
        x.wake(0);
        x.wake(5);
        due(0b011110, x, "count", 5);
        due(0b010100, x, "count", 6);
    }

    static void promise38ThoseOfCheeseSignalmenToo() {
        int[] cheese = {0, 1, 0, 0, 1, 0};
        for (int kind = 0; kind <= 5; kind++) {
            due(cheese[kind], Check.lineOf("n0500" + "scbigl".charAt(kind) + "000"), "count", 11);
        }
        DreamTrain x = States.busy();
        due(2, x, "count", 11);
        x.wake(1);
        due(2, x, "count", 11);
    }

    static void promise38RowsTextsKeptLinesThatAreThere() {
        DreamTrain x = States.busy();
        due(5, x, "count", 8);
        x.tear(0);
        x.tear(0);
        due(4, x, "count", 8);
        x.row(1, 40);
        due(4, x, "count", 8);
        due(3, x, "count", 9);
        x.text(3, 0);
        due(4, x, "count", 9);
        due(2, x, "count", 10);
    }

    // ---- promise 39

    static void promise39ZeroBeforeAny() {
        due(0, new DreamTrain(), "finding");
        DreamTrain x = new DreamTrain();
        x.row(6, 0);
        x.minute();
        x.keep(0);
        due(0, x, "finding");
    }

    static void promise39TheLatestOfEach() {
        DreamTrain x = Check.lineOf("n0500s000");
        x.row(0, 0);
        String[] names = {"tear", "at", "mark", "mean", "row"};
        int[][] args = {{1}, {0, 0}, {0, 1}, {0}, {0, -1}};
        for (int f = 5; f >= 1; f--) {
            due(DreamTrain.FINDING, x, names[f - 1], args[f - 1]);
            due(f, x, "finding");
        }
    }

    static void promise39StaysByWhatIsElseRefusedOrDone() {
        DreamTrain x = States.full();
        int was = x.finding();
        x.row(6, -1);
        x.minute();
        x.wake(4);
        x.feast(20, 0);
        x.at(0, 0);
        x.line(0);
        x.undo(0);
        due(was, x, "finding");
        same("a finding was answered", was > 0 ? 1 : 0, 1);
    }

    // ---- promise 40

    static void promise40FindingsAre1To5() {
        bounds(States::fresh, 0, 1, 5, "findings", 1);
        bounds(States::busy, 0, 1, 5, "findings", 1);
        bad(States::busy, "findings", 0);
    }

    static void promise40NoneAtFirst() {
        for (int f = 1; f <= 5; f++) {
            due(0, new DreamTrain(), "findings", f);
        }
    }

    static void promise40HowOftenEach() {
        DreamTrain x = Check.lineOf("n0500s000");
        x.row(0, 0);
        String[] names = {"tear", "at", "mark", "mean", "row"};
        int[][] args = {{1}, {0, 0}, {0, 1}, {0}, {0, -1}};
        for (int f = 1; f <= 5; f++) {
            for (int time = 1; time <= 2 * f; time++) {
                answer(x, names[f - 1], args[f - 1]);
                due(time, x, "findings", f);
            }
        }
        for (int f = 1; f <= 5; f++) {
            due(2 * f, x, "findings", f);
        }
    }

    static void promise40StayThroughANewLine() {
        DreamTrain x = States.busy();
        int was = x.findings(NOTHING);
        x.line(0);
        x.keep(0);
        x.on(0);
        x.undo(0);
        due(was, x, "findings", NOTHING);
    }

    // ---- promise 41

    private static long stirred(long... values) {
        long h = 17;
        for (long v : values) {
            h = 31 * h + v;
        }
        return h;
    }

    private static long[] joined(long[]... parts) {
        LongStream all = LongStream.empty();
        for (long[] part : parts) {
            all = LongStream.concat(all, LongStream.of(part));
        }
        return all.toArray();
    }

    private static long[] all(int many, long value) {
        return LongStream.generate(() -> value).limit(many).toArray();
    }

    static void promise41OfNothing() {
        due(stirred(joined(all(12, 0), all(3 + 6 + 4, -1))), new DreamTrain(), "digest");
    }

    static void promise41RowsAndTextsOfNone() {
        DreamTrain x = new DreamTrain();
        for (int r = 0; r <= 5; r++) {
            x.row(r, 0);
        }
        for (int t = 0; t <= 3; t++) {
            x.text(t, 0);
        }
        long[] counts = {0, 0, 0, 0, 0, 0, 0, 0, 6, 4, 0, 0};
        due(stirred(joined(counts, all(3, -1), all(6 + 4, 0))), x, "digest");
    }

    static void promise41FullRowsAndTexts() {
        DreamTrain x = new DreamTrain();
        for (int r = 0; r <= 5; r++) {
            x.row(r, 40);
        }
        x.lay(0, 0, MIN);
        x.lay(5, 39, MAX);
        for (int t = 0; t <= 3; t++) {
            x.text(t, 60);
        }
        x.put(0, 0, 128);
        x.put(3, 59, 127);
        long[] counts = {0, 0, 0, 0, 0, 0, 0, 0, 6, 4, 0, 0};
        long[] rows = new long[6 * 41];
        long[] texts = all(4 * 61, 32);
        for (int r = 0; r <= 5; r++) {
            rows[41 * r] = 40;
        }
        for (int t = 0; t <= 3; t++) {
            texts[61 * t] = 60;
        }
        rows[1] = MIN;
        rows[6 * 41 - 1] = MAX;
        texts[1] = -128;
        texts[4 * 61 - 1] = 127;
        due(stirred(joined(counts, all(3, -1), rows, texts)), x, "digest");
    }

    static void promise41SixSleepersAndKeptLines() {
        DreamTrain x = Check.lineOf("n2060 s010 c023 b040 i061 g193 l204");
        x.text(0, 0);
        x.keep(0);
        x.wake(1);
        x.minute();
        Check.pass(x, 38);
        x.keep(2);
        x.undo(2);
        long[] counts = {6, 20, 2, 1, 1, 0b111101, 0b100101, 60, 0, 1, 2, 2};
        long[] sleepers = {
            0, 1, 0, 1, 1,
            1, 2, 3, 0, 0,
            2, 4, 0, 1, 1,
            3, 6, 1, 1, 0,
            4, 19, 3, 1, 0,
            5, 20, 4, 1, 1,
        };
        long[] kept = {0, -1, 40};
        due(stirred(joined(counts, sleepers, kept, all(6, -1), new long[] {0, -1, -1, -1})), x, "digest");
    }

    static void promise41ChangesNothing() {
        DreamTrain x = States.busy();
        long first = x.digest();
        same("digest() again", x.digest(), first);
        due(-5, x, "asked");
    }
}
