import java.util.function.Supplier;

/** Boundary cases of promises 15 to 21: minute, feed, wake, lull, undo, keep, on. */
public final class BoundsOfDeedsTest extends Bounds {
    /** In busy states sleeper 4 is awake, the others are asleep; kept place 1 is missing. */
    private static final int AWAKE = 4, MISSING = 1;

    public static void main(String[] args) throws ReflectiveOperationException {
        run(BoundsOfDeedsTest.class, 15, 21);
    }

    private static Supplier<DreamTrain> busyWith(int deeds) {
        return () -> States.busyWith(deeds);
    }

    private static Supplier<DreamTrain> busyWith(int deeds, int minute) {
        return () -> States.inMinute(States.busyWith(deeds), minute);
    }

    private static void minutes(String words, int... places) {
        DreamTrain x = Check.lineOf(words);
        for (int m = 0; m < places.length; m++) {
            due(places[m], x, "minute");
            due(m + 1, x, "count", 3);
            due(places[m], x, "count", 4);
        }
    }

    // ---- promise 15

    static void promise15NoSleepers() {
        refused(STATE, States::fresh, "minute");
        refused(STATE, States::laid, "minute");
    }

    static void promise15Minute99IsTheLast() {
        DreamTrain x = States.inMinute(States.busy(), 97);
        same("minute() in minute 97 is refused", x.minute() < 0 ? 1 : 0, 0);
        same("minute() in minute 98 is refused", x.minute() < 0 ? 1 : 0, 0);
        due(99, x, "count", 3);
        due(STATE, x, "minute");
        due(99, x, "count", 3);
        refused(STATE, busyWith(7, 99), "minute");
    }

    static void promise15At40DeedsFull() {
        DreamTrain x = States.busyWith(38);
        due(10, x, "minute");
        due(39, x, "count", 2);
        due(10, x, "minute");
        due(40, x, "count", 2);
        due(FULL, x, "minute");
        due(40, x, "count", 2);
        refused(FULL, States::full, "minute");
    }

    static void promise15FullLast() {
        refused(STATE, busyWith(40, 99), "minute");
        refused(FULL, busyWith(40, 98), "minute");
        refused(STATE, busyWith(39, 99), "minute");
    }

    static void promise15FortyMinutesAreFortyDeeds() {
        DreamTrain x = Check.lineOf("n0500s050");
        for (int m = 1; m <= 40; m++) {
            due(Math.min(m, 5), x, "minute");
            due(m, x, "count", 2);
            due(m, x, "count", 3);
        }
        due(FULL, x, "minute");
        due(40, x, "count", 3);
    }

    static void promise15ItStandsInTheLastPlace() {
        minutes("n0500s004", 1, 2, 3, 4, 5, 5, 5, 5);
        minutes("n0500s040", 1, 2, 3, 4, 5, 5);
        minutes("n2000s209", 1, 2, 3, 4, 5, 6, 7, 8, 9, 10, 11, 12, 13, 14, 15, 16, 17, 18, 19, 20, 20, 20);
    }

    static void promise15ItIsWhereItWasUntilTheMinuteIsOver() {
        minutes("n0500s010", 1, 1, 2, 3);
        minutes("n0500s015", 1, 1, 1, 2);
        minutes("n0500s014", 1, 2, 3);
    }

    static void promise15ItGoesOnPastOneWhoLiesElsewhere() {
        minutes("n0500c020", 1, 2, 2, 2, 3);
        minutes("n0500c024", 1, 2, 2, 2, 2, 2, 3);
    }

    static void promise15AnybodyHoldsIt() {
        minutes("n0500s000s004", 0, 0, 0, 0, 1);
        minutes("n0500s004s000", 0, 0, 0, 0, 1);
        minutes("n0500s050s000s004", 0, 0, 0, 0, 1);
    }

    static void promise15OneWhoIsAwakeHoldsItNot() {
        DreamTrain x = Check.lineOf("n0500s000");
        x.wake(0);
        due(1, x, "minute");
        x.undo(0);
        due(0, x, "minute");
    }

    // ---- promise 16

    static void promise16SleepersOfALine() {
        bounds(States::busy, 0, 0, 5, "feed", 0, 3);
        bounds(States.line("n0500s000"), 0, 0, 0, "feed", 0, 3);
        bad(States::laid, "feed", 0, 0);
        bad(States::fresh, "feed", 0, 0);
    }

    static void promise16SuppersAre0To9() {
        bounds(States::busy, 1, 0, 9, "feed", 5, 0);
        DreamTrain x = Check.lineOf("n0500s003");
        int was = 3;
        for (int supper = 0; supper <= 9; supper++) {
            due(was, x, "feed", 0, supper);
            tells(supper, x, "sleeper", 0, 2);
            was = supper;
        }
    }

    static void promise16TheSameSupperIsADeed() {
        DreamTrain x = Check.lineOf("n0500s003");
        due(3, x, "feed", 0, 3);
        due(1, x, "count", 2);
        due(1, x, "undo", 0);
        tells(3, x, "sleeper", 0, 2);
    }

    static void promise16OneWhoIsAwakeIsFed() {
        DreamTrain x = States.busy();
        due(3, x, "feed", AWAKE, 8);
        tells(8, x, "sleeper", AWAKE, 2);
        tells(0, x, "sleeper", AWAKE, 3);
    }

    static void promise16At40DeedsFull() {
        DreamTrain x = States.busyWith(39);
        due(0, x, "feed", 0, 3);
        due(40, x, "count", 2);
        due(FULL, x, "feed", 0, 4);
        tells(3, x, "sleeper", 0, 2);
        refused(FULL, States::full, "feed", 0, 0);
        refused(FULL, States::full, "feed", 5, 9);
    }

    static void promise16FullLast() {
        bad(States::full, "feed", -1, 0);
        bad(States::full, "feed", 6, 0);
        bad(States::full, "feed", 0, -1);
        bad(States::full, "feed", 0, 10);
    }

    // ---- promise 17

    static void promise17SleepersOfALine() {
        bounds(States::busy, 0, 0, 5, "wake", 0);
        bounds(States.line("n0500s000"), 0, 0, 0, "wake", 0);
        bad(States::laid, "wake", 0);
        bad(States::fresh, "wake", 0);
    }

    static void promise17OneIsAwake() {
        refused(STATE, States::busy, "wake", AWAKE);
        DreamTrain x = Check.lineOf("n0500s000");
        due(1, x, "wake", 0);
        due(STATE, x, "wake", 0);
        due(1, x, "count", 2);
        due(0, x, "count", 5);
    }

    static void promise17WhetherOneDreamt() {
        DreamTrain x = Check.lineOf("n0500s000s001s002c003c004i005");
        int[] dreamt = {1, 1, 0, 1, 0, 0};
        for (int i = 0; i < 6; i++) {
            due(dreamt[i], x, "wake", i);
            due(63 - (2 << i) + 1, x, "count", 5);
        }
    }

    static void promise17At40DeedsFull() {
        DreamTrain x = States.busyWith(39);
        due(0, x, "wake", 0);
        due(40, x, "count", 2);
        due(FULL, x, "wake", 1);
        refused(FULL, States::full, "wake", 0);
    }

    static void promise17FullLast() {
        bad(States::full, "wake", -1);
        bad(States::full, "wake", 6);
        refused(STATE, States::full, "wake", AWAKE);
    }

    // ---- promise 18

    static void promise18SleepersOfALine() {
        bounds(States::busy, 0, 0, 5, "lull", 0);
        bounds(States.line("n0500s000"), 0, 0, 0, "lull", 0);
        bad(States::laid, "lull", 0);
        bad(States::fresh, "lull", 0);
    }

    static void promise18OneIsAsleep() {
        refused(STATE, States::busy, "lull", 0);
        refused(STATE, States::busy, "lull", 5);
        DreamTrain x = States.busy();
        due(1, x, "lull", AWAKE);
        due(STATE, x, "lull", AWAKE);
        due(8, x, "count", 2);
        due(63, x, "count", 5);
    }

    static void promise18WhetherOneDreams() {
        DreamTrain x = Check.lineOf("n0500s000s001s002c003c004i005");
        for (int i = 0; i < 6; i++) {
            x.wake(i);
        }
        int[] dreams = {1, 1, 0, 1, 0, 0};
        for (int i = 0; i < 6; i++) {
            due(dreams[i], x, "lull", i);
            due((2 << i) - 1, x, "count", 5);
        }
    }

    static void promise18At40DeedsFull() {
        DreamTrain x = States.busyWith(39);
        due(1, x, "lull", AWAKE);
        due(40, x, "count", 2);
        due(63, x, "count", 5);
        refused(FULL, States::full, "lull", AWAKE);
    }

    static void promise18FullLast() {
        bad(States::full, "lull", -1);
        bad(States::full, "lull", 6);
        refused(STATE, States::full, "lull", 0);
    }

    // ---- promise 19

    static void promise19NIs0ToHowManyDeeds() {
        bounds(States::busy, 0, 0, States.DEEDS_OF_BUSY, "undo", 0);
        bounds(States::full, 0, 0, 40, "undo", 0);
        bounds(busyWith(39), 0, 0, 39, "undo", 0);
        bounds(States.line("n0500s000"), 0, 0, 0, "undo", 0);
        bounds(States::fresh, 0, 0, 0, "undo", 0);
        bounds(States::laid, 0, 0, 0, "undo", 0);
    }

    static void promise19HowMany() {
        for (int n = 0; n <= 40; n++) {
            DreamTrain x = States.full();
            due(40 - n, x, "undo", n);
            due(n, x, "count", 2);
            same("digest() behind undo(" + n + ")", x.digest(), withKeptOfBusy(n).digest());
        }
    }

    /** As busy with so many deeds, all of them done, though lines were kept behind two and four. */
    private static DreamTrain withKeptOfBusy(int deeds) {
        DreamTrain x = States.busyWith(Math.max(deeds, States.DEEDS_OF_BUSY));
        for (int d = States.DEEDS_OF_BUSY; d > deeds; d--) {
            x.undo(d - 1);
        }
        return x;
    }

    static void promise19NoneOfThem() {
        refused(0, States::busy, "undo", States.DEEDS_OF_BUSY);
        refused(0, States::full, "undo", 40);
        refused(0, States::fresh, "undo", 0);
        refused(0, States::laid, "undo", 0);
    }

    static void promise19EachDeedAsItWas() {
        DreamTrain x = Check.lineOf("n0500s000c011");
        x.feed(1, 9);
        x.wake(0);
        x.minute();
        x.lull(0);
        x.feed(1, 9);
        due(1, x, "undo", 4);
        tells(9, x, "sleeper", 1, 2);
        due(1, x, "undo", 3);
        due(2, x, "count", 5);
        due(1, x, "undo", 2);
        due(0, x, "count", 3);
        due(0, x, "count", 4);
        due(1, x, "undo", 1);
        due(3, x, "count", 5);
        due(1, x, "undo", 0);
        tells(1, x, "sleeper", 1, 2);
    }

    static void promise19BehindItThereIsRoomAgain() {
        DreamTrain x = States.full();
        due(1, x, "undo", 39);
        due(10, x, "minute");
        due(FULL, x, "minute");
        due(40, x, "undo", 0);
        due(0, x, "count", 3);
        due(1, x, "minute");
        due(1, x, "count", 2);
    }

    static void promise19KeptLinesStay() {
        DreamTrain x = States.busy();
        due(7, x, "undo", 0);
        due(2, x, "count", 10);
        due(4, x, "on", 2);
        due(2, x, "on", 0);
    }

    // ---- promise 20

    static void promise20PlacesAre0To2() {
        bounds(States::busy, 0, 0, 2, "keep", 0);
        bounds(States::full, 0, 0, 2, "keep", 0);
        bounds(States.line("n0500s000"), 0, 0, 2, "keep", 0);
    }

    static void promise20NoSleepers() {
        for (int k = 0; k <= 2; k++) {
            refused(STATE, States::fresh, "keep", k);
            refused(STATE, States::laid, "keep", k);
        }
    }

    static void promise20BadAheadOfState() {
        bad(States::fresh, "keep", -1);
        bad(States::fresh, "keep", 3);
        bad(States::laid, "keep", MAX);
    }

    static void promise20HowManyDeeds() {
        due(0, Check.lineOf("n0500s000"), "keep", 0);
        due(7, States.busy(), "keep", 1);
        due(39, States.busyWith(39), "keep", 2);
        due(40, States.full(), "keep", 2);
    }

    static void promise20OverAnother() {
        DreamTrain x = States.full();
        due(2, x, "count", 10);
        due(40, x, "keep", 0);
        due(2, x, "count", 10);
        due(40, x, "keep", 1);
        due(3, x, "count", 10);
        x.undo(0);
        due(0, x, "keep", 1);
        due(3, x, "count", 10);
        due(40, x, "on", 0);
        due(0, x, "on", 1);
        due(4, x, "on", 2);
    }

    static void promise20IsNoDeed() {
        DreamTrain x = States.full();
        due(40, x, "keep", 1);
        due(40, x, "count", 2);
    }

    // ---- promise 21

    static void promise21PlacesAre0To2() {
        bounds(States::busy, 0, 0, 2, "on", 0);
        bounds(States::fresh, 0, 0, 2, "on", 0);
    }

    static void promise21NoneIsKeptThere() {
        finds(NOTHING, States::busy, "on", MISSING);
        for (int k = 0; k <= 2; k++) {
            finds(NOTHING, States::fresh, "on", k);
            finds(NOTHING, States::laid, "on", k);
        }
    }

    static void promise21AsItWasKept() {
        DreamTrain x = Check.lineOf("n0500s010c021");
        x.wake(0);
        x.feed(1, 8);
        x.minute();
        x.keep(1);
        long kept = x.digest();
        x.lull(0);
        x.feed(1, 1);
        Check.pass(x, 35);
        due(40, x, "count", 2);
        due(3, x, "on", 1);
        same("digest() as it was kept", x.digest(), kept);
        due(3, x, "undo", 0);
        due(3, x, "on", 1);
        same("digest() as it was kept, once more", x.digest(), kept);
        due(3, x, "undo", 0);
        tells(1, x, "sleeper", 1, 2);
        due(3, x, "count", 5);
        due(0, x, "count", 3);
    }

    /** Other deeds in the places of those that are kept: these are undone by what was kept. */
    static void promise21ItsDeedsAreUndoneThoughOthersWereDone() {
        DreamTrain x = Check.lineOf("n0500s000c041");
        for (int d = 0; d < 4; d++) {
            deed(x, d);
        }
        x.keep(1);
        x.undo(0);
        for (int d : new int[] {4, 3, 1, 0}) {
            deed(x, d);
        }
        due(4, x, "on", 1);
        for (int n = 3; n >= 0; n--) {
            due(1, x, "undo", n);
            DreamTrain twin = Check.lineOf("n0500s000c041");
            for (int d = 0; d < n; d++) {
                deed(twin, d);
            }
            for (int what = 0; what <= 7; what++) {
                due(twin.count(what), x, "count", what);
            }
            twin.sleeper(1, 2);
            tells(twin.asked(), x, "sleeper", 1, 2);
        }
    }

    private static void deed(DreamTrain x, int d) {
        switch (d) {
            case 0 -> x.minute();
            case 1 -> x.feed(1, 7);
            case 2 -> x.wake(0);
            case 3 -> x.feed(0, 5);
            default -> x.wake(1);
        }
    }

    static void promise21WithItsDeedsFullOrNot() {
        DreamTrain x = States.full();
        x.keep(1);
        x.undo(0);
        x.minute();
        due(40, x, "on", 1);
        due(FULL, x, "minute");
        due(1, x, "undo", 39);
        due(4, x, "on", 2);
        Check.pass(x, 35);
        due(39, x, "count", 2);
        due(10, x, "minute");
        due(FULL, x, "minute");
        due(40, x, "on", 1);
    }

    static void promise21IsNoDeed() {
        DreamTrain x = States.full();
        due(2, x, "on", 0);
        due(2, x, "count", 2);
        due(2, x, "on", 0);
        due(2, x, "count", 2);
    }

    static void promise21RowsTextsAndTheRestStay() {
        DreamTrain x = States.busy();
        x.row(5, 3);
        x.text(3, 3);
        dueAndTold(4, -5, x, "on", 2);
        due(6, x, "count", 8);
        due(4, x, "count", 9);
        due(2, x, "count", 10);
    }
}
