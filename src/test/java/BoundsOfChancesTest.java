import java.util.function.Supplier;

/** Boundary cases of promises 31 to 34: duel, odds, mid, lots. */
public final class BoundsOfChancesTest extends Bounds {
    private static final String HELD = "n2000c000c004";
    private static final String SIX = "n0500s000s000s000s000s000s000";
    private static final int LAST_SEED = 2147483646;

    public static void main(String[] args) throws ReflectiveOperationException {
        run(BoundsOfChancesTest.class, 31, 34);
    }

    private static Supplier<DreamTrain> busyWith(int deeds) {
        return () -> States.busyWith(deeds);
    }

    // ---- promise 31

    static void promise31NIs0To4() {
        bounds(States::busy, 0, 0, 4, "duel", 0);
        bounds(States.line("n0500s000"), 0, 0, 4, "duel", 0);
    }

    static void promise31NoSleepers() {
        for (int n = 0; n <= 4; n++) {
            refused(STATE, States::fresh, "duel", n);
            refused(STATE, States::laid, "duel", n);
        }
    }

    static void promise31BadAheadOfState() {
        bad(States::fresh, "duel", -1);
        bad(States::fresh, "duel", 5);
        bad(States::laid, "duel", MIN);
    }

    private static void duels(DreamTrain x, int... want) {
        for (int n = 0; n < want.length; n++) {
            due(want[n], x, "duel", n);
        }
    }

    static void promise31ByTurnsTheFirstBegins() {
        duels(Check.lineOf("n2000s010"), 19, 20, 19, 20, 19);
        duels(Check.lineOf(HELD), 0, 20, 0, 20, 0);
    }

    static void promise31NobodyIsAsleepToWake() {
        duels(States.allAwake("n2000s010"), 20, 20, 19, 20, 19);
        duels(States.allAwake(HELD), 20, 20, 16, 20, 16);
    }

    static void promise31NobodyIsAwakeToLull() {
        duels(Check.lineOf("n2000s200"), 20, 20, 20, 20, 20);
    }

    static void promise31OneOfSixATurn() {
        duels(Check.lineOf("n2000c000c000c000c004c004c004"), 0, 0, 0, 0, 0);
        duels(Check.lineOf("n2000c000c004c004c004c004c004"), 0, 20, 0, 20, 0);
        duels(Check.lineOf("n2000i000i000i000i000i000s000"), 18, 20, 18, 20, 18);
    }

    static void promise31Behind20Minutes() {
        duels(Check.lineOf("n2000s000"), 18, 20, 18, 20, 18);
        duels(Check.lineOf("n2000s195"), 19, 20, 19, 20, 19);
        duels(Check.lineOf("n0500s000"), 5, 5, 5, 5, 5);
    }

    static void promise31MinutesBeyond99() {
        DreamTrain x = Check.lineOf(HELD);
        Check.pass(x, 9);
        x.feed(1, 3);
        int[] want = new int[5];
        for (int n = 0; n <= 4; n++) {
            want[n] = x.duel(n);
        }
        duels(States.inMinute(x, 99), want);
    }

    static void promise31IsAside() {
        refused(19, States.line("n2000s010"), "duel", 4);
        refused(20, States.line("n2000s010"), "duel", 3);
    }

    // ---- promise 32

    static void promise32NIs0To30() {
        bounds(States::busy, 0, 0, 30, "odds", 0, 5, 5);
        bounds(States.line("n0500s000"), 0, 0, 30, "odds", 0, 5, 5);
    }

    static void promise32PlacesAre0To20() {
        bounds(States::busy, 1, 0, 20, "odds", 5, 0, 5);
        bounds(States.line("n0500s000"), 1, 0, 20, "odds", 5, 0, 5);
    }

    static void promise32PIs0To12() {
        bounds(States::busy, 2, 0, 12, "odds", 5, 5, 0);
        bounds(States.line("n0500s000"), 2, 0, 12, "odds", 5, 5, 0);
    }

    static void promise32NoSleepers() {
        refused(STATE, States::fresh, "odds", 0, 0, 0);
        refused(STATE, States::laid, "odds", 30, 20, 12);
    }

    static void promise32BadAheadOfState() {
        int[][] none = {{-1, 0, 0}, {31, 0, 0}, {0, -1, 0}, {0, 21, 0}, {0, 0, -1}, {0, 0, 13}};
        for (int[] args : none) {
            bad(States::fresh, "odds", args);
            bad(States::laid, "odds", args);
        }
    }

    static void promise32Behind0Minutes() {
        for (int p = 0; p <= 12; p++) {
            part(1, 1, Check.lineOf("n0500s000"), "odds", 0, 0, p);
            part(0, 1, Check.lineOf("n0500s000"), "odds", 0, 1, p);
        }
    }

    static void promise32Behind30Minutes() {
        part(1, 1, Check.lineOf("n2000s000"), "odds", 30, 20, 0);
        part(1, 1, Check.lineOf("n2000s000"), "odds", 22, 20, 0);
        part(0, 1, Check.lineOf("n2000s000"), "odds", 21, 20, 0);
        part(143, 144, Check.lineOf("n2000c000c004"), "odds", 30, 20, 11);
        part(143, 144, Check.lineOf("n2000c000c004"), "odds", 30, 1, 11);
    }

    static void promise32InPlaceVOrFartherOn() {
        DreamTrain x = Check.lineOf("n0500s000");
        part(1, 1, x, "odds", 2, 0, 6);
        part(1, 2, x, "odds", 2, 1, 6);
        part(1, 2, x, "odds", 2, 2, 6);
        part(0, 1, x, "odds", 2, 3, 6);
    }

    static void promise32BeyondTheLastPlace() {
        DreamTrain x = Check.lineOf("n0500s000");
        part(1, 1, x, "odds", 30, 5, 6);
        for (int v : new int[] {6, 19, 20}) {
            part(0, 1, x, "odds", 30, v, 6);
        }
    }

    static void promise32InLowestTerms() {
        int[][] parts = {
            {0, 1}, {1, 12}, {1, 6}, {1, 4}, {1, 3}, {5, 12}, {1, 2}, {7, 12}, {2, 3}, {3, 4}, {5, 6}, {11, 12}, {1, 1},
        };
        for (int p = 0; p <= 12; p++) {
            part(parts[p][0], parts[p][1], Check.lineOf("n0500s000"), "odds", 1, 1, p);
        }
    }

    static void promise32EachOfSixByItself() {
        part(0, 1, Check.lineOf(SIX), "odds", 1, 1, 0);
        part(1, 2985984, Check.lineOf(SIX), "odds", 1, 1, 1);
        part(1, 64, Check.lineOf(SIX), "odds", 1, 1, 6);
        part(1771561, 2985984, Check.lineOf(SIX), "odds", 1, 1, 11);
        part(1, 1, Check.lineOf(SIX), "odds", 1, 1, 12);
    }

    static void promise32OnlyWhoIsAsleep() {
        DreamTrain x = Check.lineOf("n0500s000s000");
        part(1, 144, x, "odds", 1, 1, 1);
        x.wake(0);
        part(1, 12, x, "odds", 1, 1, 1);
        x.wake(1);
        part(1, 1, x, "odds", 1, 1, 1);
        part(1, 1, x, "odds", 1, 1, 0);
    }

    // ---- promise 33

    static void promise33NIs0To30() {
        bounds(States::busy, 0, 0, 30, "mid", 0, 5);
        bounds(States.line("n0500s000"), 0, 0, 30, "mid", 0, 5);
    }

    static void promise33PIs0To12() {
        bounds(States::busy, 1, 0, 12, "mid", 5, 0);
        bounds(States.line("n0500s000"), 1, 0, 12, "mid", 5, 0);
    }

    static void promise33NoSleepers() {
        refused(STATE, States::fresh, "mid", 0, 0);
        refused(STATE, States::laid, "mid", 30, 12);
    }

    static void promise33BadAheadOfState() {
        for (int[] args : new int[][] {{-1, 0}, {31, 0}, {0, -1}, {0, 13}}) {
            bad(States::fresh, "mid", args);
            bad(States::laid, "mid", args);
        }
    }

    static void promise33Behind0Minutes() {
        DreamTrain x = Check.lineOf("n0500s000");
        part(0, 1, x, "mid", 0, 5);
        Check.pass(x, 3);
        part(1, 1, x, "mid", 0, 5);
        Check.pass(x, 9);
        part(5, 1, x, "mid", 0, 5);
    }

    static void promise33Behind30Minutes() {
        part(20, 1, Check.lineOf("n2000s000"), "mid", 30, 0);
        part(20, 1, Check.lineOf("n2000s000"), "mid", 22, 0);
        part(19, 1, Check.lineOf("n2000s000"), "mid", 21, 0);
        part(0, 1, Check.lineOf(HELD), "mid", 30, 0);
        part(20, 1, Check.lineOf(HELD), "mid", 30, 12);
        // 20 places times 143 by 144.
        part(5 * 143, 36, Check.lineOf(HELD), "mid", 30, 11);
    }

    static void promise33InLowestTerms() {
        int[][] parts = {
            {0, 1}, {1, 6}, {1, 3}, {1, 2}, {2, 3}, {5, 6}, {1, 1}, {7, 6}, {4, 3}, {3, 2}, {5, 3}, {11, 6}, {2, 1},
        };
        for (int p = 0; p <= 12; p++) {
            part(parts[p][0], parts[p][1], Check.lineOf("n0500s000"), "mid", 2, p);
        }
    }

    static void promise33AllSix() {
        part(1, 2985984, Check.lineOf(SIX), "mid", 1, 1);
        part(1771561, 2985984, Check.lineOf(SIX), "mid", 1, 11);
        part(1771561, 1492992, Check.lineOf(SIX), "mid", 2, 11);
        part(2, 1, Check.lineOf(SIX), "mid", 2, 12);
        part(0, 1, Check.lineOf(SIX), "mid", 2, 0);
    }

    static void promise33OnlyWhoIsAsleep() {
        DreamTrain x = Check.lineOf("n0500s000s000");
        x.wake(0);
        part(1, 12, x, "mid", 1, 1);
        x.wake(1);
        part(1, 1, x, "mid", 1, 0);
    }

    // ---- promise 34

    static void promise34NIs1To20() {
        bounds(States::busy, 0, 1, 20, "lots", 1, 7);
        bounds(States.line("n0500s000"), 0, 1, 20, "lots", 1, 7);
        for (int n : new int[] {1, 2, 19, 20}) {
            DreamTrain x = Check.lineOf("n0500s000");
            same("lots(" + n + ", 7)", x.lots(n, 7), x.count(4));
            due(n, x, "count", 2);
        }
    }

    static void promise34SeedsAre1To2147483646() {
        for (int seed : new int[] {0, -1, MIN, MAX}) {
            bad(States::busy, "lots", 1, seed);
            bad(States::busy, "lots", 20, seed);
        }
        for (int seed : new int[] {1, 2, LAST_SEED - 1, LAST_SEED}) {
            DreamTrain x = Check.lineOf("n0500s000");
            same("lots(20, " + seed + ")", x.lots(20, seed), x.count(4));
            due(20, x, "count", 2);
        }
    }

    static void promise34TheLeastSeedsFirstLotIsAMinute() {
        DreamTrain x = Check.lineOf("n0500s050");
        due(1, x, "lots", 1, 1);
        due(1, x, "count", 3);
        due(1, x, "count", 5);
    }

    /** 2147435376, which leaves over 0 by 4; by 8, cut, it is 268429422, which leaves over 0 by 6, 2 by 4. */
    static void promise34TheGreatestSeedsFirstLotWakesOrLulls() {
        DreamTrain x = Check.lineOf("n0500s000s000s000s000");
        due(0, x, "lots", 1, LAST_SEED);
        due(0b1011, x, "count", 5);
        due(0, x, "lots", 1, LAST_SEED);
        due(0b1111, x, "count", 5);
        x = Check.lineOf(SIX);
        due(0, x, "lots", 1, LAST_SEED);
        due(0b111110, x, "count", 5);
    }

    /** Seed 3: 144813, which leaves over 1 by 4; by 8, cut, 18101; by 64, cut, 2262. */
    static void promise34PerhapsTheSameSupper() {
        DreamTrain x = Check.lineOf("n0500s002");
        due(0, x, "lots", 1, 3);
        tells(2, x, "sleeper", 0, 2);
        due(1, x, "count", 2);
        x = Check.lineOf("n0500s050s051s053");
        due(0, x, "lots", 1, 3);
        tells(2, x, "sleeper", 2, 2);
    }

    /** Seed 7: 337897, which leaves over 1 by 4; by 8, cut, 42237; by 64, cut, 5279. */
    static void promise34ASupperByLots() {
        DreamTrain x = Check.lineOf("n0500s050s051s053s054");
        due(0, x, "lots", 1, 7);
        int[] suppers = {0, 9, 3, 4};
        for (int i = 0; i < 4; i++) {
            tells(suppers[i], x, "sleeper", i, 2);
        }
        due(15, x, "count", 5);
        due(1, x, "undo", 0);
        tells(1, x, "sleeper", 1, 2);
    }

    static void promise34NoSleepers() {
        refused(STATE, States::fresh, "lots", 1, 1);
        refused(STATE, States::laid, "lots", 20, LAST_SEED);
    }

    static void promise34BadAheadOfState() {
        for (int[] args : new int[][] {{0, 1}, {21, 1}, {1, 0}, {1, MAX}, {MIN, MIN}}) {
            bad(States::fresh, "lots", args);
            bad(States::laid, "lots", args);
        }
    }

    static void promise34MoreThan40DeedsIsFull() {
        DreamTrain x = States.busyWith(20);
        same("lots(20, 5) behind 20 deeds", x.lots(20, 5), x.count(4));
        due(40, x, "count", 2);
        refused(FULL, busyWith(21), "lots", 20, 5);
        refused(FULL, busyWith(39), "lots", 2, 5);
        x = States.busyWith(39);
        same("lots(1, 5) behind 39 deeds", x.lots(1, 5), x.count(4));
        due(40, x, "count", 2);
        refused(FULL, States::full, "lots", 1, 5);
        refused(FULL, States::full, "lots", 20, 5);
    }

    static void promise34FullLast() {
        for (int[] args : new int[][] {{0, 1}, {21, 1}, {1, 0}, {1, MAX}, {20, -1}}) {
            bad(States::full, "lots", args);
        }
    }

    /** The lots of seed 1 leave over 3, 2, 2 by 4: minutes. */
    static void promise34InMinute99ADeedOfNothingElse() {
        DreamTrain x = States.inMinute(Check.lineOf("n2000s000"), 98);
        due(1, x, "lots", 3, 1);
        due(99, x, "count", 3);
        due(3, x, "count", 2);
        due(1, x, "lots", 3, 1);
        due(99, x, "count", 3);
        due(6, x, "count", 2);
        due(5, x, "undo", 1);
        due(1, x, "count", 5);
        tells(0, x, "sleeper", 0, 2);
        due(99, x, "count", 3);
        due(1, x, "count", 4);
        due(1, x, "undo", 0);
        due(98, x, "count", 3);
        due(0, x, "count", 4);
    }

    static void promise34InMinute99FullOfDeeds() {
        DreamTrain x = States.inMinute(States.busyWith(39), 99);
        due(10, x, "lots", 1, 1);
        due(40, x, "count", 2);
        due(99, x, "count", 3);
        due(FULL, x, "lots", 1, 1);
    }

    static void promise34DeedsByLotsAreUndoneOneByOne() {
        DreamTrain x = Check.lineOf(States.WORDS);
        long[] digests = new long[21];
        int seed = 4711;
        for (int d = 0; d < 20; d++) {
            digests[d] = x.digest();
            x.lots(1, seed);
            seed = (int) (seed * 48271L % MAX);
        }
        digests[20] = x.digest();
        x.undo(0);
        x.lots(20, 4711);
        for (int n = 20; n >= 0; n--) {
            due(n == 20 ? 0 : 1, x, "undo", n);
            same("digest() behind " + n + " lots", x.digest(), digests[n]);
        }
    }
}
