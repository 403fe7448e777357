/** Promises 28 to 30: account, kinds, look. */
public final class AccountTest {
    private static final int NOTHING = 1, UNLIKE = 3, SIZE = 5;
    private static final Check check = new Check("AccountTest");

    public static void main(String[] args) {
        account();
        accountRefused();
        kinds();
        kindsRefused();
        look();
        check.end();
    }

    private static void account() {
        DreamTrain x = Check.lineOf("n0500s000 s000 s034");
        Check.fill(x, 0, 0, 0, 1);
        check.answers("one of two, or both", x, x.account(0), 6, 0);
        x.feed(1, 3);
        check.answers("just the first", x, x.account(0), 4, 1);
        Check.fill(x, 0, 1, 2, 3);
        check.answers("not the first", x, x.account(0), 4, 0);
        Check.fill(x, 0, 0, 0, 1, 2, 3, 3, 3);
        check.due("nobody dreams so", x.account(0), DreamTrain.NONE);
        check.due("NONE tells nothing by asked()", x.asked(), 0);
        Check.fill(x, 0, 1, 2, 3, 3);
        check.answers("the third, without the first", x, x.account(0), 2, 4);
        x.wake(2);
        check.answers("though awake now", x, x.account(0), 2, 4);
        Check.fill(x, 0, 2);
        check.due("two places at once", x.account(0), DreamTrain.NONE);
        Check.fill(x, 0, 0, 0, 1, 2, 3, 4, 5, 5, 5, 5, 5, 5, 5, 5, 5, 5, 5, 5, 5, 5);
        check.answers("20 places", x, x.account(0), 4, 1);
        x.minute();
        x.minute();
        Check.fill(x, 0, 1);
        check.answers("from now on", x, x.account(0), 8, 0);
    }

    private static void accountRefused() {
        DreamTrain x = new DreamTrain();
        check.due("account(-1)", x.account(-1), DreamTrain.BAD);
        check.due("account(6)", x.account(6), DreamTrain.BAD);
        check.due("STATE ahead of NOTHING", x.account(0), DreamTrain.STATE);
        x = Check.lineOf("n0500s000");
        check.finds("a missing row", x, x.account(0), NOTHING);
        x.row(0, 0);
        check.finds("none", x, x.account(0), SIZE);
        x.row(0, 21);
        x.lay(0, 0, -1);
        check.finds("more than 20", x, x.account(0), SIZE);
        Check.fill(x, 0, 0, 6);
        check.finds("no place", x, x.account(0), UNLIKE);
        Check.fill(x, 0, -1);
        check.finds("a place below 0", x, x.account(0), UNLIKE);
        Check.fill(x, 0, 0, 5);
        check.due("a place, but not by then", x.account(0), DreamTrain.NONE);
    }

    private static void kinds() {
        DreamTrain x = Check.lineOf("n0500s000 s050");
        Check.fill(x, 0, 0, 0, 1);
        check.due("a sleeper, a schoolboy, a lover", x.kinds(0, 0), 1 | 4 | 32);
        Check.fill(x, 0, 0, 0, 0);
        check.due("one of cheese, a signalman", x.kinds(0, 0), 2 | 16);
        Check.fill(x, 0, 1);
        check.due("an insomniac", x.kinds(0, 0), 8);
        Check.fill(x, 0, 0, 0, 0, 1);
        check.due("nobody", x.kinds(0, 0), 0);
        x.feed(0, 9);
        Check.fill(x, 0, 1, 2);
        check.due("supper 9, goes on", x.kinds(0, 0), 1 | 4 | 8 | 32);
        x.feed(0, 5);
        Check.fill(x, 0, 0, 0, 0, 1);
        check.due("a schoolboy of supper 5", x.kinds(0, 0), 4);
        x.wake(0);
        Check.fill(x, 0, 1, 2);
        check.due("of any kind, being awake", x.kinds(0, 0), 63);
        check.tells("the kind is as it was", x, x.sleeper(0, 0), 0);
    }

    private static void kindsRefused() {
        DreamTrain x = new DreamTrain();
        check.due("kinds(0, 0) without sleepers", x.kinds(0, 0), DreamTrain.BAD);
        x = Check.lineOf("n0500s000");
        check.due("kinds(-1, 0)", x.kinds(-1, 0), DreamTrain.BAD);
        check.due("kinds(1, 0)", x.kinds(1, 0), DreamTrain.BAD);
        check.due("kinds(0, -1)", x.kinds(0, -1), DreamTrain.BAD);
        check.due("kinds(0, 6)", x.kinds(0, 6), DreamTrain.BAD);
        check.finds("a missing row", x, x.kinds(0, 0), NOTHING);
        x.row(0, 0);
        check.finds("none", x, x.kinds(0, 0), SIZE);
        x.row(0, 21);
        x.lay(0, 0, -1);
        check.finds("more than 20", x, x.kinds(0, 0), SIZE);
        Check.fill(x, 0, 0, 6);
        check.finds("no place", x, x.kinds(0, 0), UNLIKE);
        Check.fill(x, 0, -1);
        check.finds("a place below 0", x, x.kinds(0, 0), UNLIKE);
    }

    private static void look() {
        DreamTrain x = new DreamTrain();
        check.due("look(0) without sleepers", x.look(0), DreamTrain.BAD);
        // Behind 3 minutes: places 1 1 0 3 .. of s, b, l; c, g; i: three are alike.
        x = Check.lineOf("n0500s000");
        check.answers("look(0)", x, x.look(0), 3, 3);
        check.due("look(-1)", x.look(-1), DreamTrain.BAD);
        check.due("look(1)", x.look(1), DreamTrain.BAD);
        x.wake(0);
        check.answers("one who is awake: all alike, the first", x, x.look(0), 1, 6);
        check.tells("the kind is as it was", x, x.sleeper(0, 0), 0);
    }
}
