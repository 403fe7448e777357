import java.util.Arrays;
import java.util.function.Supplier;

/** Boundary cases of promises 22 to 30: train, comes, stood, intime, feast, bed, account, kinds, look. */
public final class BoundsOfAsidesTest extends Bounds {
    /** Lines by which the train comes in behind so many minutes. */
    private static final String IN_59 = " b003 b004 l000 b084 b089 b080";
    private static final String IN_60 = " b019 b015 b013 b107 b106 b103";
    private static final String IN_61 = " b002 b003 b006 b093 b096 b092";
    /** It is held in place 0 for good. */
    private static final String HELD = "n2000c000c004";
    /** None of these lies or dreams otherwise 30 minutes later. */
    private static final String BY_30 = "n2000 s010 c064 b085 b113 l148 s190";

    public static void main(String[] args) throws ReflectiveOperationException {
        run(BoundsOfAsidesTest.class, 22, 30);
    }

    /** The train of BY_30 where it is in minute 9, as if that were minute 99. */
    private static DreamTrain inMinute99() {
        return States.inMinute(inMinute9(), 99);
    }

    private static DreamTrain inMinute9() {
        DreamTrain x = Check.lineOf(BY_30);
        Check.pass(x, 9);
        return x;
    }

    /** MINUTES go beyond 99: what is asked in minute 99 is answered as in minute 9. */
    private static void asInMinute9(String name, int... args) {
        DreamTrain x = inMinute9();
        long want = answer(x, name, args);
        dueAndTold(want, x.asked(), inMinute99(), name, args);
    }

    // ---- promise 22

    static void promise22NIs0To60() {
        bounds(States::busy, 0, 0, 60, "train", 0);
        bounds(States::full, 0, 0, 60, "train", 0);
    }

    static void promise22NoSleepers() {
        refused(STATE, States::fresh, "train", 0);
        refused(STATE, States::laid, "train", 60);
    }

    static void promise22BadAheadOfState() {
        bad(States::fresh, "train", -1);
        bad(States::fresh, "train", 61);
        bad(States::laid, "train", MIN);
    }

    static void promise22Behind0And60Minutes() {
        DreamTrain x = Check.lineOf("n2000s000");
        int[][] want = {{0, 0, 0}, {1, 0, 1}, {2, 0, 2}, {3, 1, 2}, {21, 19, 2}, {22, 20, 2}, {23, 20, 3}, {59, 20, 39}, {60, 20, 40}};
        for (int[] w : want) {
            dueAndTold(w[1], w[2], x, "train", w[0]);
        }
        dueAndTold(0, 60, Check.lineOf(HELD), "train", 60);
        dueAndTold(20, 40, States.allAwake(HELD), "train", 60);
    }

    static void promise22InTheLastPlaceItStands() {
        DreamTrain x = States.allAwake("n0500s000");
        dueAndTold(4, 0, x, "train", 4);
        dueAndTold(5, 0, x, "train", 5);
        dueAndTold(5, 1, x, "train", 6);
    }

    static void promise22BehindFortyDeeds() {
        DreamTrain x = Check.lineOf(HELD);
        Check.pass(x, 40);
        dueAndTold(0, 60, x, "train", 60);
        due(40, x, "count", 3);
    }

    static void promise22FromAPlaceFartherOn() {
        DreamTrain x = Check.lineOf("n0500s000s041");
        Check.pass(x, 5);
        due(3, x, "count", 4);
        dueAndTold(3, 0, x, "train", 0);
        dueAndTold(4, 0, x, "train", 1);
        dueAndTold(4, 1, x, "train", 2);
        dueAndTold(5, 1, x, "train", 3);
        dueAndTold(5, 58, x, "train", 60);
    }

    static void promise22MinutesBeyond99() {
        for (int n : new int[] {0, 1, 2, 10, 59, 60}) {
            asInMinute9("train", n);
        }
    }

    // ---- promise 23

    static void promise23NoSleepers() {
        refused(STATE, States::fresh, "comes");
        refused(STATE, States::laid, "comes");
    }

    static void promise23Behind0Minutes() {
        DreamTrain x = States.allAwake("n0500s000");
        Check.pass(x, 4);
        dueAndTold(1, 5, x, "comes");
        Check.pass(x, 1);
        dueAndTold(0, 5, x, "comes");
        Check.pass(x, 1);
        dueAndTold(0, 6, x, "comes");
    }

    static void promise23Behind60MinutesAndNotBehind61() {
        dueAndTold(59, 59, Check.lineOf("n2060" + IN_59), "comes");
        dueAndTold(60, 60, Check.lineOf("n2060" + IN_60), "comes");
        refused(NONE, States.line("n2060" + IN_61), "comes");
        DreamTrain x = Check.lineOf("n2060" + IN_61);
        x.minute();
        dueAndTold(60, 61, x, "comes");
        x.minute();
        dueAndTold(59, 61, x, "comes");
    }

    static void promise23Never() {
        refused(NONE, States.line(HELD), "comes");
        refused(NONE, () -> {
            DreamTrain x = Check.lineOf(HELD);
            x.sleeper(1, 2);
            Check.pass(x, 40);
            return x;
        }, "comes");
    }

    static void promise23MinutesBeyond99() {
        DreamTrain x = inMinute9();
        int behind = x.comes();
        same("comes() in minute 9 is known", behind > 0 ? 1 : 0, 1);
        dueAndTold(behind, 99 + behind, inMinute99(), "comes");
    }

    // ---- promise 24

    static void promise24SleepersOfALine() {
        bounds(States::busy, 0, 0, 5, "stood", 0);
        bounds(States.line("n0500s000"), 0, 0, 0, "stood", 0);
        bad(States::fresh, "stood", 0);
        bad(States::laid, "stood", 0);
    }

    static void promise24OfTheNext60Minutes() {
        due(60, Check.lineOf(HELD), "stood", 0);
        due(60, Check.lineOf(HELD), "stood", 1);
        due(0, Check.lineOf(HELD + "s010"), "stood", 2);
        due(40, Check.lineOf("n2000s200"), "stood", 0);
        due(55, Check.lineOf("n0500s050"), "stood", 0);
        DreamTrain x = Check.lineOf("n0500s050s000");
        Check.pass(x, 40);
        due(60, x, "stood", 0);
        due(0, x, "stood", 1);
    }

    static void promise24PassingIsNotStanding() {
        due(0, Check.lineOf("n0500s002"), "stood", 0);
        due(1, Check.lineOf("n0500s001"), "stood", 0);
        due(2, Check.lineOf("n0500s000"), "stood", 0);
    }

    static void promise24OnAnothersAccount() {
        DreamTrain x = Check.lineOf("n0500s000s002");
        due(2, x, "stood", 1);
        x.wake(1);
        due(2, x, "stood", 1);
        x.wake(0);
        due(0, x, "stood", 1);
        due(0, x, "stood", 0);
    }

    static void promise24InTheLastPlaceThoughAwake() {
        due(55, States.allAwake("n0500s050"), "stood", 0);
    }

    static void promise24TellsNothingByAsked() {
        dueAndTold(60, 0, Check.lineOf(HELD), "stood", 0);
    }

    static void promise24MinutesBeyond99() {
        for (int i = 0; i <= 5; i++) {
            asInMinute9("stood", i);
        }
    }

    // ---- promise 25

    static void promise25NoSleepers() {
        refused(STATE, States::fresh, "intime");
        refused(STATE, States::laid, "intime");
    }

    static void promise25DueIn0() {
        refused(NONE, States.line("n0500s000"), "intime");
        refused(NONE, States.line("n0500s050"), "intime");
    }

    static void promise25JustInTimeAndAMinuteTooLate() {
        dueAndTold(0, 0, Check.lineOf("n0507s000"), "intime");
        dueAndTold(0, 0, Check.lineOf("n0508s000"), "intime");
        dueAndTold(1, 1, Check.lineOf("n0506s000"), "intime");
        dueAndTold(1, 1, Check.lineOf("n0505s000"), "intime");
        refused(NONE, States.line("n0504s000"), "intime");
    }

    static void promise25DueIn60() {
        dueAndTold(0, 0, Check.lineOf("n2060" + IN_60), "intime");
        same("intime() a minute too late", Check.lineOf("n2060" + IN_61).intime(), 1);
        same("intime() a minute too late", Check.lineOf("n2059" + IN_60).intime(), 1);
        dueAndTold(0, 0, Check.lineOf("n2059" + IN_59), "intime");
        dueAndTold(1, 1, Check.lineOf("n2060c000c004"), "intime");
    }

    static void promise25AsManyMinutesAsAreLeft() {
        DreamTrain x = Check.lineOf("n0507s000");
        for (int m = 0; m < 7; m++) {
            dueAndTold(0, 0, x, "intime");
            x.minute();
        }
        due(5, x, "count", 4);
        dueAndTold(0, 0, x, "intime");
    }

    static void promise25NowIfItIsOver() {
        Supplier<DreamTrain> over = () -> {
            DreamTrain x = Check.lineOf("n0503s050");
            Check.pass(x, 4);
            return x;
        };
        refused(NONE, over, "intime");
        DreamTrain x = over.get();
        x.minute();
        dueAndTold(0, 0, x, "intime");
        Check.pass(x, 9);
        dueAndTold(0, 0, x, "intime");
    }

    static void promise25DueInThisMinute() {
        DreamTrain x = Check.lineOf("n0505s050");
        Check.pass(x, 4);
        dueAndTold(0, 0, x, "intime");
        Check.pass(x, 1);
        due(5, x, "count", 3);
        dueAndTold(0, 0, x, "intime");
        refused(NONE, () -> {
            DreamTrain late = Check.lineOf("n0505s000");
            Check.pass(late, 5);
            return late;
        }, "intime");
    }

    static void promise25AllSixOrNone() {
        String six = "s000s000s000s000s000s000";
        dueAndTold(6, 63, Check.lineOf("n0505" + six), "intime");
        dueAndTold(6, 63, Check.lineOf("n0506" + six), "intime");
        dueAndTold(0, 0, Check.lineOf("n0507" + six), "intime");
        refused(NONE, States.line("n0504" + six), "intime");
    }

    static void promise25OnlyWhoIsAsleep() {
        DreamTrain x = Check.lineOf("n0505s000s000s000");
        dueAndTold(3, 7, x, "intime");
        x.wake(1);
        dueAndTold(2, 5, x, "intime");
        x.wake(0);
        dueAndTold(1, 4, x, "intime");
        x.wake(2);
        dueAndTold(0, 0, x, "intime");
    }

    static void promise25OfLikeFewTheLeastNumber() {
        dueAndTold(1, 1, Check.lineOf("n0508s000c023s030"), "intime");
        dueAndTold(1, 2, Check.lineOf("n0507s050c000c004"), "intime");
        dueAndTold(2, 6, Check.lineOf("n0506s050s000s000"), "intime");
    }

    // ---- promise 26

    static void promise26PlacesAre0To20() {
        bounds(States::busy, 0, 0, 20, "feast", 0, 10);
        bounds(States.line("n0500s000"), 0, 0, 20, "feast", 0, 10);
    }

    static void promise26NIs0To40() {
        bounds(States::busy, 1, 0, 40, "feast", 4, 0);
        bounds(States.line("n0500s000"), 1, 0, 40, "feast", 5, 0);
    }

    static void promise26NoSleepers() {
        refused(STATE, States::fresh, "feast", 0, 0);
        refused(STATE, States::laid, "feast", 20, 40);
    }

    static void promise26BadAheadOfState() {
        bad(States::fresh, "feast", -1, 0);
        bad(States::fresh, "feast", 21, 0);
        bad(States::laid, "feast", 0, -1);
        bad(States::laid, "feast", 0, 41);
    }

    static void promise26None() {
        dueAndTold(0, 0, Check.lineOf("n0500s000"), "feast", 0, 0);
        dueAndTold(0, 0, Check.lineOf("n0500s000"), "feast", 0, 1);
        dueAndTold(0, 0, Check.lineOf(HELD), "feast", 0, 39);
        dueAndTold(0, 0, Check.lineOf(HELD), "feast", 0, 40);
    }

    static void promise26ByOne() {
        DreamTrain x = Check.lineOf("n0500c000c005");
        dueAndTold(0, 0, x, "feast", 0, 4);
        dueAndTold(1, 1, x, "feast", 0, 5);
        dueAndTold(1, 1, x, "feast", 0, 40);
        dueAndTold(1, 10, Check.lineOf("n2000i000s192"), "feast", 19, 19);
        x = Check.lineOf("n0500s003");
        x.sleeper(0, 2);
        dueAndTold(1, 0, x, "feast", 0, 0);
    }

    static void promise26ByTwo() {
        DreamTrain x = Check.lineOf("n0500s000s000s000");
        dueAndTold(0, 0, x, "feast", 0, 1);
        dueAndTold(2, 2014, x, "feast", 0, 40);
        dueAndTold(2, 13, Check.lineOf("n0500s003s012"), "feast", 1, 3);
    }

    static void promise26TheLesserOnesFirst() {
        dueAndTold(2, 3010, Check.lineOf("n0500s012s003"), "feast", 1, 3);
    }

    /** A schoolboy dreams for three minutes together only from 5 and 18 on (t and the supper, by 30). */
    static void promise26TheLastWhoAndTheLastSupper() {
        dueAndTold(1, 59, Check.lineOf("n2000s200s200s200s200s200b090"), "feast", 9, 11);
        dueAndTold(2, 49055, Check.lineOf("n2000s200s200s200s200b090b100"), "feast", 10, 15);
        refused(NONE, States.line("n2000s200s200s200s200s200b090"), "feast", 9, 12);
    }

    static void promise26ByNoTwo() {
        refused(NONE, States.line("n0500s000s000"), "feast", 0, 40);
        refused(NONE, States.line("n0500s000s000"), "feast", 0, 4);
        refused(NONE, States.line("n0500s000s000s000s000"), "feast", 1, 0);
        dueAndTold(1, 4, Check.lineOf("n0500s000s000"), "feast", 0, 3);
    }

    /** Each has to hold it for two minutes, which each does by one supper (and that and six) alone. */
    static void promise26ByThreeIsNone() {
        dueAndTold(0, 0, Check.lineOf("n2000s033s040s053"), "feast", 5, 10);
        dueAndTold(1, 23, Check.lineOf("n2000s033s040s050"), "feast", 5, 10);
        dueAndTold(2, 10023, Check.lineOf("n2000s033s041s050"), "feast", 5, 10);
        refused(NONE, States.line("n2000s030s041s050"), "feast", 5, 10);
    }

    static void promise26OfThoseWhoAreAsleep() {
        DreamTrain x = Check.lineOf("n0500s000s000s000");
        x.wake(0);
        due(NONE, x, "feast", 0, 40);
        dueAndTold(1, 14, x, "feast", 0, 3);
        x.wake(1);
        x.wake(2);
        due(NONE, x, "feast", 0, 0);
    }

    static void promise26InTheLastPlaceByNoSupper() {
        refused(NONE, States.line("n0500s050"), "feast", 5, 4);
        dueAndTold(0, 0, Check.lineOf("n0500s050"), "feast", 5, 5);
        dueAndTold(0, 0, States.allAwake("n0500s050"), "feast", 5, 40);
        refused(NONE, States.line("n2000s000"), "feast", 20, 19);
        dueAndTold(1, 2, Check.lineOf("n2000s000"), "feast", 20, 20);
    }

    static void promise26BeyondTheLastPlace() {
        for (int place : new int[] {6, 19, 20}) {
            refused(NONE, States.line("n0500s000"), "feast", place, 40);
        }
        dueAndTold(0, 0, Check.lineOf("n0500s000"), "feast", 5, 40);
    }

    static void promise26APlaceThatIsPast() {
        refused(NONE, () -> {
            DreamTrain x = Check.lineOf("n0500s000s010");
            Check.pass(x, 3);
            return x;
        }, "feast", 0, 0);
    }

    static void promise26MinutesBeyond99() {
        for (int place = 0; place <= 20; place++) {
            asInMinute9("feast", place, 3);
            asInMinute9("feast", place, 40);
        }
    }

    // ---- promise 27

    static void promise27SleepersOfALine() {
        bounds(States::busy, 0, 0, 5, "bed", 0);
        bounds(States.line("n0500s000"), 0, 0, 0, "bed", 0);
        bad(States::fresh, "bed", 0);
        bad(States::laid, "bed", 0);
    }

    static void promise27OfTheNext40Minutes() {
        dueAndTold(0, 40, Check.lineOf(HELD + "s010"), "bed", 2);
        dueAndTold(0, 40, Check.lineOf(HELD), "bed", 0);
        dueAndTold(20, 20, Check.lineOf("n2000s000"), "bed", 0);
        dueAndTold(5, 35, Check.lineOf("n0500s000"), "bed", 0);
    }

    static void promise27TheFirstPlaceAndTheLast() {
        dueAndTold(0, 40, Check.lineOf("n2000c004c200"), "bed", 1);
        dueAndTold(20, 20, Check.lineOf("n2000s000s205"), "bed", 0);
        DreamTrain x = Check.lineOf("n0500s000");
        Check.pass(x, 40);
        dueAndTold(5, 40, x, "bed", 0);
    }

    static void promise27OfLikeMostTheFirst() {
        dueAndTold(3, 17, Check.lineOf("n0600 s060 b037 s022 b039 i008 b036"), "bed", 0);
    }

    static void promise27OneWhoIsAwake() {
        dueAndTold(5, 35, States.allAwake("n0500s000"), "bed", 0);
        DreamTrain x = Check.lineOf(HELD + "c000");
        x.wake(2);
        dueAndTold(0, 40, x, "bed", 2);
    }

    static void promise27OneLiesWhereOneLay() {
        DreamTrain x = Check.lineOf("n0500s000");
        x.bed(0);
        tells(0, x, "sleeper", 0, 1);
    }

    static void promise27MinutesBeyond99() {
        for (int i = 0; i <= 5; i++) {
            asInMinute9("bed", i);
        }
    }

    // ---- promises 28, 29: what is refused of a row

    private static int[] upTo(int last, int size) {
        int[] places = new int[size];
        for (int m = 0; m < size; m++) {
            places[m] = Math.min(m + 1, last);
        }
        return places;
    }

    private static int[] with(int[] places, int at, int place) {
        int[] changed = places.clone();
        changed[at] = place;
        return changed;
    }

    /** Rows that are refused by account and kinds alike. */
    private static void refusedRows(String name, int... args) {
        String words = "n1060s101";
        finds(NOTHING, States.line(words), name, args);
        finds(SIZE, States.seen(words), name, args);
        finds(SIZE, States.seen(words, upTo(10, 21)), name, args);
        finds(SIZE, States.seen(words, upTo(10, 40)), name, args);
        finds(SIZE, States.seen(words, with(upTo(10, 21), 0, -1)), name, args);
        finds(SIZE, States.seen(words, with(upTo(10, 21), 20, 11)), name, args);
        for (int place : new int[] {-1, 11, 20, MIN, MAX}) {
            finds(UNLIKE, States.seen(words, place), name, args);
            finds(UNLIKE, States.seen(words, with(upTo(10, 20), 0, place)), name, args);
            finds(UNLIKE, States.seen(words, with(upTo(10, 20), 19, place)), name, args);
        }
    }

    // ---- promise 28

    static void promise28RowsAre0To5() {
        bounds(States::busy, 0, 0, 5, "account", 0);
        bounds(States::laid, 0, 0, 5, "account", 0);
    }

    static void promise28NoSleepersAheadOfTheRow() {
        for (int r = 0; r <= 5; r++) {
            refused(STATE, States::laid, "account", r);
            refused(STATE, States::fresh, "account", r);
        }
    }

    static void promise28BadAheadOfState() {
        bad(States::fresh, "account", -1);
        bad(States::fresh, "account", 6);
        bad(States::laid, "account", MAX);
    }

    static void promise28NothingSizeUnlike() {
        refusedRows("account", 0);
        finds(NOTHING, States::busy, "account", 5);
        finds(SIZE, States::busy, "account", 1);
        finds(SIZE, States::busy, "account", 2);
        finds(SIZE, States::busy, "account", 4);
        finds(UNLIKE, States::busy, "account", 0);
    }

    static void promise28ThereIsNone() {
        refused(NONE, States.seen("n1060s101", 0), "account", 0);
        refused(NONE, States.seen("n1060s101", 2), "account", 0);
        refused(NONE, States.seen("n1060s101", 10), "account", 0);
        refused(NONE, States.seen("n1060s101", with(upTo(10, 20), 19, 9)), "account", 0);
    }

    static void promise28OnePlaceAndTwenty() {
        dueAndTold(2, 0, States.seen("n1060s101", 1).get(), "account", 0);
        dueAndTold(2, 0, States.seen("n1060s101", upTo(10, 19)).get(), "account", 0);
        dueAndTold(2, 0, States.seen("n1060s101", upTo(10, 20)).get(), "account", 0);
    }

    static void promise28TheTwentiethPlaceTells() {
        dueAndTold(1, 0, States.seen("n2060s195", upTo(20, 20)).get(), "account", 0);
        dueAndTold(1, 1, States.seen("n2060s195", upTo(19, 20)).get(), "account", 0);
        dueAndTold(2, 0, States.seen("n2060s195", upTo(19, 19)).get(), "account", 0);
    }

    static void promise28AllSetsOfSix() {
        String six = "n0500s050s050s050s050s050s050";
        dueAndTold(64, 0, States.seen(six, upTo(5, 20)).get(), "account", 0);
        dueAndTold(1, 0, States.seen("n0500s000s000s000s000s000s000", 1).get(), "account", 0);
        dueAndTold(63, 0, States.seen("n0500s000s000s000s000s000s000", 0).get(), "account", 0);
        dueAndTold(1, 63, States.seen("n0600s001s015s023s031s045s053", 0, 1, 1, 2, 2, 3, 3, 4, 4, 5, 5, 6).get(), "account", 0);
    }

    static void promise28WhoeverIsAwakeNow() {
        DreamTrain x = States.seen("n2060s195", upTo(19, 20)).get();
        x.wake(0);
        dueAndTold(1, 1, x, "account", 0);
        tells(0, x, "sleeper", 0, 3);
    }

    static void promise28FromNowOn() {
        DreamTrain x = States.seen("n0500s000", 1, 2).get();
        dueAndTold(1, 0, x, "account", 0);
        Check.pass(x, 2);
        dueAndTold(2, 0, x, "account", 0);
    }

    // ---- promise 29

    static void promise29SleepersOfALine() {
        bounds(States::busy, 0, 0, 5, "kinds", 0, 3);
        bounds(States.seen("n0500s000", 1), 0, 0, 0, "kinds", 0, 0);
        bad(States::fresh, "kinds", 0, 0);
        bad(States::laid, "kinds", 0, 3);
    }

    static void promise29RowsAre0To5() {
        bounds(States::busy, 1, 0, 5, "kinds", 0, 3);
    }

    static void promise29BadAheadOfAll() {
        bad(States::busy, "kinds", 6, 5);
        bad(States::busy, "kinds", -1, 1);
        bad(States::busy, "kinds", 6, 2);
        bad(States::busy, "kinds", -1, 0);
    }

    static void promise29NothingSizeUnlike() {
        refusedRows("kinds", 0, 0);
        for (int i = 0; i <= 5; i++) {
            finds(NOTHING, States::busy, "kinds", i, 5);
            finds(SIZE, States::busy, "kinds", i, 1);
            finds(SIZE, States::busy, "kinds", i, 2);
            finds(SIZE, States::busy, "kinds", i, 4);
            finds(UNLIKE, States::busy, "kinds", i, 0);
        }
    }

    static void promise29OfNoKindAndOfAll() {
        refused(0, States.seen("n0500s000", 2), "kinds", 0, 0);
        refused(0, States.seen("n0500s000", 0, 0, 0, 1), "kinds", 0, 0);
        refused(63, States.seen("n0500s050", 1), "kinds", 0, 0);
        refused(63, States.seen("n0500s050", upTo(5, 20)), "kinds", 0, 0);
    }

    static void promise29TheTwentiethPlaceTells() {
        refused(1 | 2 | 4 | 16, States.seen("n2060s195", upTo(19, 20)), "kinds", 0, 0);
        refused(8 | 32, States.seen("n2060s195", upTo(20, 20)), "kinds", 0, 0);
        refused(63, States.seen("n2060s195", upTo(19, 19)), "kinds", 0, 0);
    }

    static void promise29OneWhoIsAwake() {
        DreamTrain x = States.seen("n2060s195", upTo(19, 20)).get();
        x.wake(0);
        due(0, x, "kinds", 0, 0);
        Check.fill(x, 0, upTo(20, 20));
        due(63, x, "kinds", 0, 0);
    }

    static void promise29AllElseAsItIs() {
        due(1 | 2 | 4 | 16 | 32, States.seen("n0500i000s055", 0).get(), "kinds", 0, 0);
        due(63, States.seen("n0500i000s000", 0).get(), "kinds", 0, 0);
        due(0, States.seen("n0500i000s000", 1).get(), "kinds", 0, 0);
    }

    static void promise29MinutesBeyond99() {
        DreamTrain x = inMinute9();
        int[] places = new int[20];
        for (int m = 0; m < 20; m++) {
            places[m] = x.train(m + 1);
        }
        Check.fill(x, 0, places);
        DreamTrain later = inMinute99();
        Check.fill(later, 0, places);
        same("account(0)", later.account(0), x.account(0));
        for (int i = 0; i <= 5; i++) {
            // Of the kinds that dream by the minute itself those that dream so from 30 on are not compared.
            int byThirty = 1 | 2 | 4 | 32;
            same("kinds(" + i + ", 0)", later.kinds(i, 0) & byThirty, x.kinds(i, 0) & byThirty);
        }
        same("all places are told", Arrays.stream(places).max().getAsInt() > 5 ? 1 : 0, 1);
    }

    static void promise29FromNowOn() {
        DreamTrain x = States.seen("n0500s000s050", 0, 1).get();
        due(0, x, "kinds", 0, 0);
        Check.pass(x, 1);
        due(1 | 4 | 32, x, "kinds", 0, 0);
        Check.pass(x, 1);
        due(0, x, "kinds", 0, 0);
        Check.fill(x, 0, 1, 2);
        due(63, x, "kinds", 1, 0);
        due(63 & ~(2 | 16), x, "kinds", 0, 0);
    }

    // ---- promise 30

    static void promise30SleepersOfALine() {
        bounds(States::busy, 0, 0, 5, "look", 0);
        bounds(States.line("n0500s000"), 0, 0, 0, "look", 0);
        bad(States::fresh, "look", 0);
        bad(States::laid, "look", 0);
    }

    static void promise30Behind1Minute() {
        dueAndTold(1, 5, Check.lineOf("n2000s005"), "look", 0);
    }

    static void promise30Behind19And20Minutes() {
        dueAndTold(19, 5, Check.lineOf("n2000s186"), "look", 0);
        dueAndTold(20, 4, Check.lineOf("n2000s195"), "look", 0);
    }

    static void promise30BeyondMinute20NothingIsSeen() {
        dueAndTold(1, 6, Check.lineOf("n2000s000s195"), "look", 1);
        dueAndTold(1, 6, Check.lineOf("n2000s200"), "look", 0);
    }

    static void promise30AllAlikeTheFirst() {
        dueAndTold(1, 6, States.allAwake("n2000s000"), "look", 0);
        dueAndTold(1, 6, Check.lineOf("n0500s050"), "look", 0);
        DreamTrain x = Check.lineOf("n0500s000");
        Check.pass(x, 40);
        dueAndTold(1, 6, x, "look", 0);
    }

    /** Nothing is left over by one call that another one could see. */
    static void promise30AndAllAsidesWhateverWasAskedAhead() {
        String[] names = {"train", "comes", "stood", "intime", "feast", "bed", "account", "kinds", "look", "duel", "odds", "mid"};
        int[][] args = {{60}, {}, {3}, {}, {7, 20}, {1}, {0}, {2, 0}, {4}, {3}, {30, 9, 5}, {29, 7}};
        Supplier<DreamTrain> state = States.seen(States.WORDS, 1, 1, 2);
        for (int first = 0; first < names.length; first++) {
            for (int second = 0; second < names.length; second++) {
                DreamTrain alone = state.get();
                DreamTrain x = state.get();
                answer(x, names[first], args[first]);
                x.at(0, 0);
                alone.at(0, 0);
                due(answer(alone, names[second], args[second]), x, names[second], args[second]);
                same(names[second] + " behind " + names[first] + ", then asked()", x.asked(), alone.asked());
            }
        }
    }

    static void promise30WhicheverKindOneIs() {
        for (char letter : "scbigl".toCharArray()) {
            dueAndTold(20, 4, Check.lineOf("n2000" + letter + "195"), "look", 0);
            dueAndTold(3, 3, Check.lineOf("n0500" + letter + "000"), "look", 0);
        }
    }

    static void promise30FromNowOn() {
        DreamTrain x = Check.lineOf("n2000s195");
        for (int m = 0; m < 19; m++) {
            dueAndTold(20 - m, 4, x, "look", 0);
            x.minute();
        }
        dueAndTold(1, 4, x, "look", 0);
    }

    /** All kinds dream alike in minutes 39 and 99, and from these on. */
    static void promise30MinutesBeyond99() {
        int apart = 0;
        for (int i = 0; i <= 5; i++) {
            DreamTrain x = States.inMinute(inMinute9(), 39);
            long want = answer(x, "look", i);
            dueAndTold(want, x.asked(), inMinute99(), "look", i);
            apart += x.asked() < 6 ? 1 : 0;
        }
        same("kinds of some are told apart", apart > 0 ? 1 : 0, 1);
    }
}
