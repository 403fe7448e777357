import java.util.Arrays;

/** Boundary cases of promises 1 to 7: a new object, row, lay, at, tear, copy, mean. */
public final class BoundsOfRowsTest extends Bounds {
    /** Row 5 is missing in each of these states. */
    private static final int MISSING = 5;

    public static void main(String[] args) throws ReflectiveOperationException {
        run(BoundsOfRowsTest.class, 1, 7);
    }

    /** A new object with row 0 of so many ints. */
    private static DreamTrain rowOf(int... values) {
        DreamTrain x = new DreamTrain();
        Check.fill(x, 0, values);
        return x;
    }

    private static int[] fortyOf(int value) {
        int[] values = new int[40];
        Arrays.fill(values, value);
        return values;
    }

    private static void places(DreamTrain x, int r, int... want) {
        for (int i = 0; i < want.length; i++) {
            tells(want[i], x, "at", r, i);
        }
        same("size of row " + r, x.at(r, want.length), DreamTrain.FINDING);
    }

    // ---- promise 1

    static void promise01NoRowsAtFirst() {
        due(0, new DreamTrain(), "count", 8);
        for (int r = 0; r <= 5; r++) {
            finds(NOTHING, States::fresh, "lay", r, 0, 1);
            finds(NOTHING, States::fresh, "at", r, 0);
            finds(NOTHING, States::fresh, "tear", r);
            finds(NOTHING, States::fresh, "copy", r, 0, r, 0, 0);
            finds(NOTHING, States::fresh, "mean", r);
        }
    }

    static void promise01NoTextsAtFirst() {
        due(0, new DreamTrain(), "count", 9);
        for (int t = 0; t <= 3; t++) {
            finds(NOTHING, States::fresh, "put", t, 0, 110);
            finds(NOTHING, States::fresh, "fault", t);
            finds(NOTHING, States::fresh, "line", t);
        }
    }

    static void promise01NoSleepersAtFirst() {
        DreamTrain x = new DreamTrain();
        for (int what = 0; what <= 11; what++) {
            due(0, x, "count", what);
        }
        for (String call : new String[] {"sleeper", "mark", "dreams", "feed"}) {
            bad(States::fresh, call, 0, 1);
        }
        for (String call : new String[] {"wake", "lull", "stood", "bed", "look"}) {
            bad(States::fresh, call, 0);
        }
    }

    static void promise01NothingIsToldAtFirst() {
        DreamTrain x = new DreamTrain();
        due(0, x, "asked");
        due(0, x, "upper");
        due(1, x, "lower");
        due(0, x, "finding");
        for (int f = 1; f <= 5; f++) {
            due(0, x, "findings", f);
        }
    }

    static void promise01OneObjectHasNothingOfAnother() {
        States.full();
        same("digest() of a new object", new DreamTrain().digest(), States.fresh().digest());
        due(0, new DreamTrain(), "count", 8);
    }

    // ---- promise 2

    static void promise02RowsAre0To5() {
        bounds(States::fresh, 0, 0, 5, "row", 0, 1);
        bounds(States::busy, 0, 0, 5, "row", 0, 1);
        DreamTrain x = new DreamTrain();
        for (int r = 0; r <= 5; r++) {
            due(r + 1, x, "row", r, r + 1);
            due(r + 1, x, "count", 8);
            tells(0, x, "at", r, r);
        }
    }

    static void promise02NAbove40IsBad() {
        DreamTrain x = new DreamTrain();
        due(39, x, "row", 0, 39);
        same("place 39 of 39", x.at(0, 39), DreamTrain.FINDING);
        due(40, x, "row", 0, 40);
        tells(0, x, "at", 0, 39);
        same("place 40 of 40", x.at(0, 40), DreamTrain.FINDING);
        bad(States::fresh, "row", 0, 41);
        bad(States::fresh, "row", 0, MAX);
        bad(States::busy, "row", 2, 41);
        bad(States::busy, "row", MISSING, MAX);
    }

    static void promise02NBelow0IsSize() {
        finds(SIZE, States::fresh, "row", 0, -1);
        finds(SIZE, States::fresh, "row", 5, MIN);
        finds(SIZE, States::busy, "row", 2, -1);
        finds(SIZE, States::busy, "row", MISSING, MIN);
    }

    static void promise02NOf0IsARowThatIsThere() {
        DreamTrain x = new DreamTrain();
        due(0, x, "row", 0, 0);
        due(1, x, "count", 8);
        same("place 0 of none", x.at(0, 0), DreamTrain.FINDING);
        due(BEYOND, x, "finding");
        due(1, x, "row", 0, 1);
        tells(0, x, "at", 0, 0);
    }

    static void promise02BadAheadOfSize() {
        bad(States::busy, "row", -1, -1);
        bad(States::busy, "row", 6, -1);
        bad(States::busy, "row", MAX, MIN);
    }

    static void promise02ARowAnewIsOf0s() {
        DreamTrain x = rowOf(fortyOf(8));
        due(2, x, "row", 0, 2);
        places(x, 0, 0, 0);
        due(40, x, "row", 0, 40);
        places(x, 0, fortyOf(0));
        due(1, x, "count", 8);
    }

    // ---- promise 3

    static void promise03RowsAre0To5() {
        bounds(States::busy, 0, 0, 5, "lay", 0, 0, 1);
        bounds(States::fresh, 0, 0, 5, "lay", 0, 0, 1);
    }

    static void promise03TheRowIsMissing() {
        finds(NOTHING, States::busy, "lay", MISSING, 0, 1);
        finds(NOTHING, States::busy, "lay", MISSING, -1, 1);
        finds(NOTHING, States::busy, "lay", MISSING, MAX, 1);
    }

    static void promise03APlaceThatThereIsNot() {
        for (int i : new int[] {-1, 3, MIN, MAX}) {
            finds(BEYOND, States::busy, "lay", 0, i, 1);
        }
        tells(4, States.busy(), "lay", 0, 0, 1);
        tells(7, States.busy(), "lay", 0, 2, 1);
    }

    static void promise03NoPlaceInARowOfNone() {
        finds(BEYOND, States::busy, "lay", 1, 0, 1);
        finds(BEYOND, States::busy, "lay", 1, -1, 1);
    }

    static void promise03TheLastPlaceOf40() {
        DreamTrain x = States.busy();
        tells(0, x, "lay", 2, 38, 5);
        tells(MAX, x, "lay", 2, 39, 6);
        tells(6, x, "at", 2, 39);
        finds(BEYOND, States::busy, "lay", 2, 40, 1);
    }

    static void promise03AnyIntIsLaid() {
        DreamTrain x = rowOf(3);
        int was = 3;
        for (int v : new int[] {MIN, MAX, -1, 0, BAD, NONE}) {
            tells(was, x, "lay", 0, 0, v);
            tells(v, x, "at", 0, 0);
            was = v;
        }
    }

    static void promise03OtherPlacesStay() {
        DreamTrain x = rowOf(1, 2, 3);
        x.lay(0, 1, 9);
        places(x, 0, 1, 9, 3);
    }

    // ---- promise 4

    static void promise04RowsAre0To5() {
        bounds(States::busy, 0, 0, 5, "at", 0, 0);
        bounds(States::fresh, 0, 0, 5, "at", 0, 0);
    }

    static void promise04TheRowIsMissing() {
        finds(NOTHING, States::busy, "at", MISSING, 0);
        finds(NOTHING, States::busy, "at", MISSING, -1);
        finds(NOTHING, States::busy, "at", MISSING, MAX);
    }

    static void promise04APlaceThatThereIsNot() {
        for (int i : new int[] {-1, 3, MIN, MAX}) {
            finds(BEYOND, States::busy, "at", 0, i);
        }
        tells(4, States.busy(), "at", 0, 0);
        tells(7, States.busy(), "at", 0, 2);
    }

    static void promise04NoPlaceInARowOfNone() {
        finds(BEYOND, States::busy, "at", 1, 0);
        finds(BEYOND, States::busy, "at", 1, -1);
    }

    static void promise04TheLastPlaceOf40() {
        tells(0, States.busy(), "at", 2, 38);
        tells(MAX, States.busy(), "at", 2, 39);
        tells(MIN, States.busy(), "at", 2, 0);
        finds(BEYOND, States::busy, "at", 2, 40);
    }

    // ---- promise 5

    static void promise05RowsAre0To5() {
        bounds(States::busy, 0, 0, 5, "tear", 0);
        bounds(States::fresh, 0, 0, 5, "tear", 0);
    }

    static void promise05TheRowIsMissing() {
        finds(NOTHING, States::busy, "tear", MISSING);
        DreamTrain x = States.busy();
        due(1, x, "tear", 0);
        due(DreamTrain.FINDING, x, "tear", 0);
        due(NOTHING, x, "finding");
    }

    static void promise05RowsOfNoneAndOf40() {
        DreamTrain x = States.busy();
        due(5, x, "count", 8);
        due(1, x, "tear", 1);
        due(4, x, "count", 8);
        due(1, x, "tear", 2);
        due(3, x, "count", 8);
        due(DreamTrain.FINDING, x, "at", 2, 39);
        due(NOTHING, x, "finding");
    }

    static void promise05ATornRowComesAnewOf0s() {
        DreamTrain x = rowOf(1, 2, 3);
        due(1, x, "tear", 0);
        due(0, x, "count", 8);
        due(3, x, "row", 0, 3);
        places(x, 0, 0, 0, 0);
    }

    // ---- promise 6

    static void promise06RowsAre0To5() {
        bounds(States::busy, 0, 0, 5, "copy", 0, 0, 0, 0, 0);
        bounds(States::busy, 2, 0, 5, "copy", 0, 0, 0, 0, 0);
    }

    static void promise06NBelow0IsSize() {
        finds(SIZE, States::busy, "copy", 0, 0, 2, 0, -1);
        finds(SIZE, States::busy, "copy", 0, 0, 2, 0, MIN);
    }

    static void promise06BadAheadOfAll() {
        bad(States::busy, "copy", -1, 0, 0, 0, -1);
        bad(States::busy, "copy", 0, 0, 6, 0, -1);
        bad(States::busy, "copy", 6, 0, MISSING, 0, 0);
        bad(States::busy, "copy", MISSING, 0, -1, 0, 0);
        bad(States::busy, "copy", 0, -1, 6, 99, 1);
    }

    static void promise06SizeAheadOfNothingAndBeyond() {
        finds(SIZE, States::busy, "copy", MISSING, 0, 0, 0, -1);
        finds(SIZE, States::busy, "copy", 0, 0, MISSING, 0, -1);
        finds(SIZE, States::busy, "copy", 0, -1, 2, 41, -1);
        finds(SIZE, States::busy, "copy", 0, 99, 2, -1, MIN);
    }

    static void promise06EitherIsMissing() {
        finds(NOTHING, States::busy, "copy", MISSING, 0, 0, 0, 0);
        finds(NOTHING, States::busy, "copy", 0, 0, MISSING, 0, 0);
        finds(NOTHING, States::busy, "copy", MISSING, 0, MISSING, 0, 0);
    }

    static void promise06NothingAheadOfBeyond() {
        finds(NOTHING, States::busy, "copy", MISSING, -1, 0, 0, 1);
        finds(NOTHING, States::busy, "copy", MISSING, 0, 0, 3, 1);
        finds(NOTHING, States::busy, "copy", 0, 3, MISSING, 0, 1);
        finds(NOTHING, States::busy, "copy", 0, 0, MISSING, MAX, MAX);
    }

    static void promise06NotSoManyFrom() {
        due(1, States.busy(), "copy", 0, 1, 2, 0, 2);
        finds(BEYOND, States::busy, "copy", 0, 1, 2, 0, 3);
        finds(BEYOND, States::busy, "copy", 0, 2, 2, 0, 2);
        finds(BEYOND, States::busy, "copy", 0, 3, 2, 0, 1);
        for (int i : new int[] {-1, MIN, MAX}) {
            finds(BEYOND, States::busy, "copy", 0, i, 2, 0, 1);
        }
    }

    static void promise06NotSoManyTo() {
        due(1, States.busy(), "copy", 2, 0, 0, 1, 2);
        finds(BEYOND, States::busy, "copy", 2, 0, 0, 1, 3);
        finds(BEYOND, States::busy, "copy", 2, 0, 0, 2, 2);
        finds(BEYOND, States::busy, "copy", 2, 0, 0, 3, 1);
        for (int j : new int[] {-1, MIN, MAX}) {
            finds(BEYOND, States::busy, "copy", 2, 0, 0, j, 1);
        }
    }

    static void promise06NoWrapAroundOfSums() {
        finds(BEYOND, States::busy, "copy", 2, 1, 2, 0, MAX);
        finds(BEYOND, States::busy, "copy", 2, 0, 2, 1, MAX);
        finds(BEYOND, States::busy, "copy", 2, MAX, 2, 0, MAX);
        finds(BEYOND, States::busy, "copy", 2, 0, 2, MAX, 1);
        finds(BEYOND, States::busy, "copy", 2, MIN, 2, MIN, MAX);
    }

    static void promise06NOf0() {
        due(1, States.busy(), "copy", 1, 0, 1, 0, 0);
        due(1, States.busy(), "copy", 0, 3, 0, 3, 0);
        finds(BEYOND, States::busy, "copy", 0, 4, 0, 0, 0);
        finds(BEYOND, States::busy, "copy", 0, 0, 0, 4, 0);
        finds(BEYOND, States::busy, "copy", 0, -1, 0, 0, 0);
        finds(BEYOND, States::busy, "copy", 0, 0, 0, -1, 0);
        finds(BEYOND, States::busy, "copy", 1, 1, 1, 0, 0);
        DreamTrain x = rowOf(1, 2);
        x.copy(0, 2, 0, 0, 0);
        places(x, 0, 1, 2);
    }

    static void promise06FromAndToARowOfNone() {
        finds(BEYOND, States::busy, "copy", 1, 0, 0, 0, 1);
        finds(BEYOND, States::busy, "copy", 0, 0, 1, 0, 1);
    }

    static void promise06AllOf40() {
        int[] values = new int[40];
        for (int i = 0; i < 40; i++) {
            values[i] = 3 * i - 50;
        }
        DreamTrain x = rowOf(values);
        x.row(1, 40);
        due(1, x, "copy", 0, 0, 1, 0, 40);
        places(x, 1, values);
        finds(BEYOND, States::busy, "copy", 2, 0, 2, 0, 41);
        x.row(1, 39);
        due(DreamTrain.FINDING, x, "copy", 0, 0, 1, 0, 40);
        due(1, x, "copy", 0, 1, 1, 0, 39);
        places(x, 1, Arrays.copyOfRange(values, 1, 40));
    }

    static void promise06WithinItselfAsIfTakenAhead() {
        DreamTrain x = rowOf(1, 2, 3, 4, 5);
        due(1, x, "copy", 0, 0, 0, 1, 4);
        places(x, 0, 1, 1, 2, 3, 4);
        due(1, x, "copy", 0, 1, 0, 0, 4);
        places(x, 0, 1, 2, 3, 4, 4);
        due(1, x, "copy", 0, 0, 0, 0, 5);
        places(x, 0, 1, 2, 3, 4, 4);
        due(1, x, "copy", 0, 0, 0, 2, 3);
        places(x, 0, 1, 2, 1, 2, 3);
    }

    static void promise06TheOtherPlacesStay() {
        DreamTrain x = rowOf(1, 2, 3, 4);
        Check.fill(x, 4, 6, 7, 8, 9);
        due(1, x, "copy", 0, 1, 4, 2, 1);
        places(x, 0, 1, 2, 3, 4);
        places(x, 4, 6, 7, 2, 9);
    }

    // ---- promise 7

    static void promise07RowsAre0To5() {
        bounds(States::busy, 0, 0, 5, "mean", 0);
        bounds(States::fresh, 0, 0, 5, "mean", 0);
    }

    static void promise07TheRowIsMissing() {
        finds(NOTHING, States::busy, "mean", MISSING);
    }

    static void promise07SharedAmongNone() {
        finds(NOUGHT, States::busy, "mean", 1);
    }

    static void promise07OfOne() {
        tells(MIN, rowOf(MIN), "mean", 0);
        tells(MAX, rowOf(MAX), "mean", 0);
        tells(0, rowOf(0), "mean", 0);
        tells(-1, rowOf(-1), "mean", 0);
    }

    static void promise07IsCut() {
        tells(1, rowOf(1, 2), "mean", 0);
        tells(2, rowOf(2, 2), "mean", 0);
        tells(0, rowOf(0, 1), "mean", 0);
        tells(0, rowOf(0, -1), "mean", 0);
        tells(-1, rowOf(-1, -2), "mean", 0);
        tells(-2, rowOf(-2, -2), "mean", 0);
        tells(0, rowOf(MAX, MIN), "mean", 0);
        tells(1, rowOf(1, 2, 2), "mean", 0);
        tells(-1, rowOf(-1, -2, -2), "mean", 0);
    }

    static void promise07OfTheGreatestAndLeastInts() {
        tells(MAX, rowOf(fortyOf(MAX)), "mean", 0);
        tells(MIN, rowOf(fortyOf(MIN)), "mean", 0);
        tells(-715827883, rowOf(MIN, MIN, MAX), "mean", 0);
    }

    static void promise07OfAll40() {
        int[] values = fortyOf(0);
        values[39] = 40;
        tells(1, rowOf(values), "mean", 0);
        values[39] = 39;
        tells(0, rowOf(values), "mean", 0);
        values[39] = 0;
        values[0] = -40;
        tells(-1, rowOf(values), "mean", 0);
    }

    static void promise07OnlyWhatIsInTheRow() {
        DreamTrain x = rowOf(5, 5, 5);
        x.row(0, 2);
        x.lay(0, 0, 4);
        tells(2, x, "mean", 0);
    }
}
