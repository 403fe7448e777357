/** Promises 1 to 7: a new object, row, lay, at, tear, copy, mean. */
public final class RowsTest {
    private static final int NOTHING = 1, BEYOND = 2, NOUGHT = 4, SIZE = 5;
    private static final Check check = new Check("RowsTest");

    public static void main(String[] args) {
        newObject();
        row();
        layAndAt();
        tear();
        copy();
        mean();
        check.end();
    }

    private static void newObject() {
        DreamTrain x = new DreamTrain();
        for (int what = 0; what < 12; what++) {
            check.due("new count(" + what + ")", x.count(what), 0);
        }
        for (int r = 0; r < 6; r++) {
            check.finds("new at(" + r + ", 0)", x, x.at(r, 0), NOTHING);
        }
        for (int t = 0; t < 4; t++) {
            check.finds("new fault(" + t + ")", x, x.fault(t), NOTHING);
        }
        for (int k = 0; k < 3; k++) {
            check.finds("new on(" + k + ")", x, x.on(k), NOTHING);
        }
        check.due("new sleeper(0, 0)", x.sleeper(0, 0), DreamTrain.BAD);
    }

    private static void row() {
        DreamTrain x = new DreamTrain();
        check.due("row(0, 0)", x.row(0, 0), 0);
        check.due("row(5, 40)", x.row(5, 40), 40);
        check.due("two rows", x.count(8), 2);
        check.tells("at(5, 39)", x, x.at(5, 39), 0);
        check.due("row(-1, 0)", x.row(-1, 0), DreamTrain.BAD);
        check.due("row(6, 0)", x.row(6, 0), DreamTrain.BAD);
        check.due("row(6, -1)", x.row(6, -1), DreamTrain.BAD);
        check.due("row(0, 41)", x.row(0, 41), DreamTrain.BAD);
        check.due("row(0, MAX)", x.row(0, Integer.MAX_VALUE), DreamTrain.BAD);
        check.due("BAD is no finding", x.finding(), 0);
        check.finds("row(0, -1)", x, x.row(0, -1), SIZE);
        check.finds("row(0, MIN)", x, x.row(0, Integer.MIN_VALUE), SIZE);
        x.lay(5, 3, 8);
        check.finds("row(5, -1)", x, x.row(5, -1), SIZE);
        check.tells("a refused row changes nothing", x, x.at(5, 3), 8);
        x.row(5, 4);
        check.tells("a row anew is of 0", x, x.at(5, 3), 0);
        x.lay(5, 3, 8);
        x.row(5, 2);
        x.row(5, 4);
        check.tells("a row longer anew is of 0", x, x.at(5, 3), 0);
    }

    private static void layAndAt() {
        DreamTrain x = new DreamTrain();
        x.row(2, 3);
        check.tells("lay(2, 0, 7)", x, x.lay(2, 0, 7), 0);
        check.tells("lay(2, 0, MIN)", x, x.lay(2, 0, Integer.MIN_VALUE), 7);
        check.tells("lay(2, 2, -5)", x, x.lay(2, 2, -5), 0);
        check.tells("at(2, 0)", x, x.at(2, 0), Integer.MIN_VALUE);
        check.tells("at(2, 1)", x, x.at(2, 1), 0);
        check.tells("at(2, 2)", x, x.at(2, 2), -5);
        check.due("lay(-1, 0, 1)", x.lay(-1, 0, 1), DreamTrain.BAD);
        check.due("lay(6, 0, 1)", x.lay(6, 0, 1), DreamTrain.BAD);
        check.due("at(-1, 0)", x.at(-1, 0), DreamTrain.BAD);
        check.due("at(6, 99)", x.at(6, 99), DreamTrain.BAD);
        check.finds("lay(1, 99, 1)", x, x.lay(1, 99, 1), NOTHING);
        check.finds("at(1, 99)", x, x.at(1, 99), NOTHING);
        check.finds("lay(2, 3, 1)", x, x.lay(2, 3, 1), BEYOND);
        check.finds("lay(2, -1, 1)", x, x.lay(2, -1, 1), BEYOND);
        check.finds("at(2, 3)", x, x.at(2, 3), BEYOND);
        check.finds("at(2, MIN)", x, x.at(2, Integer.MIN_VALUE), BEYOND);
        check.due("refused calls tell nothing", x.asked(), -5);
    }

    private static void tear() {
        DreamTrain x = new DreamTrain();
        x.row(0, 1);
        x.row(1, 0);
        check.due("tear(0)", x.tear(0), 1);
        check.finds("at(0, 0) of a torn row", x, x.at(0, 0), NOTHING);
        check.finds("tear(0) again", x, x.tear(0), NOTHING);
        check.due("tear(1) of an empty row", x.tear(1), 1);
        check.due("no rows left", x.count(8), 0);
        check.due("tear(6)", x.tear(6), DreamTrain.BAD);
        check.due("tear(-1)", x.tear(-1), DreamTrain.BAD);
    }

    private static void copy() {
        DreamTrain x = new DreamTrain();
        Check.fill(x, 0, 1, 2, 3, 4, 5);
        Check.fill(x, 1, 9, 9, 9);
        check.due("copy(0, 2, 1, 1, 2)", x.copy(0, 2, 1, 1, 2), 1);
        row(x, 1, 9, 3, 4);
        check.due("copy forward in itself", x.copy(0, 0, 0, 1, 4), 1);
        row(x, 0, 1, 1, 2, 3, 4);
        check.due("copy backward in itself", x.copy(0, 1, 0, 0, 4), 1);
        row(x, 0, 1, 2, 3, 4, 4);
        check.due("copy of all", x.copy(1, 0, 1, 0, 3), 1);
        row(x, 1, 9, 3, 4);
        check.due("copy of none", x.copy(0, 5, 1, 3, 0), 1);
        row(x, 1, 9, 3, 4);
        check.due("copy(-1, ..)", x.copy(-1, 0, 0, 0, -1), DreamTrain.BAD);
        check.due("copy(.., 6, ..)", x.copy(0, 0, 6, 0, -1), DreamTrain.BAD);
        check.finds("copy of n below 0 of a missing row", x, x.copy(3, 0, 4, 0, -1), SIZE);
        check.finds("copy from a missing row", x, x.copy(3, 9, 0, 0, 9), NOTHING);
        check.finds("copy to a missing row", x, x.copy(0, 9, 3, 0, 9), NOTHING);
        check.finds("copy from below", x, x.copy(0, -1, 1, 0, 1), BEYOND);
        check.finds("copy to below", x, x.copy(0, 0, 1, -1, 1), BEYOND);
        check.finds("copy of too many", x, x.copy(0, 3, 1, 0, 3), BEYOND);
        check.finds("copy to too few", x, x.copy(0, 0, 1, 1, 3), BEYOND);
        check.finds("copy from far", x, x.copy(0, Integer.MAX_VALUE, 1, 0, 1), BEYOND);
        check.finds("copy to far", x, x.copy(0, 0, 1, Integer.MAX_VALUE, 1), BEYOND);
        check.finds("copy of all ints", x, x.copy(0, 1, 1, 1, Integer.MAX_VALUE), BEYOND);
        row(x, 0, 1, 2, 3, 4, 4);
        row(x, 1, 9, 3, 4);
    }

    private static void row(DreamTrain x, int r, int... values) {
        for (int i = 0; i < values.length; i++) {
            check.tells("place " + i + " of row " + r, x, x.at(r, i), values[i]);
        }
    }

    private static void mean() {
        DreamTrain x = new DreamTrain();
        Check.fill(x, 0, 1, 2, 2);
        check.tells("mean of 1 2 2", x, x.mean(0), 1);
        Check.fill(x, 0, -1, -2, -2);
        check.tells("mean of -1 -2 -2", x, x.mean(0), -1);
        Check.fill(x, 0, Integer.MAX_VALUE, Integer.MAX_VALUE, Integer.MAX_VALUE);
        check.tells("mean of greatest ints", x, x.mean(0), Integer.MAX_VALUE);
        Check.fill(x, 0, Integer.MIN_VALUE, Integer.MIN_VALUE);
        check.tells("mean of least ints", x, x.mean(0), Integer.MIN_VALUE);
        Check.fill(x, 0, 5, 7);
        x.row(0, 1);
        check.tells("mean of a shorter row", x, x.mean(0), 0);
        check.due("mean(6)", x.mean(6), DreamTrain.BAD);
        check.due("mean(-1)", x.mean(-1), DreamTrain.BAD);
        check.finds("mean of a missing row", x, x.mean(1), NOTHING);
        x.row(1, 0);
        check.finds("mean of none", x, x.mean(1), NOUGHT);
    }
}
