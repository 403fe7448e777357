/** Promises 15 to 21: minute, feed, wake, lull, undo, keep, on. */
public final class DeedsTest {
    private static final int NOTHING = 1;
    private static final Check check = new Check("DeedsTest");

    public static void main(String[] args) {
        minute();
        minuteByKinds();
        feed();
        wakeAndLull();
        fullIsLast();
        the40th();
        undo();
        keepAndOn();
        check.end();
    }

    private static void places(String words, int... want) {
        DreamTrain x = Check.lineOf(words);
        for (int m = 0; m < want.length; m++) {
            check.due(words + ", minute " + m, x.minute(), want[m]);
            check.due(words + ", count(3)", x.count(3), m + 1);
            check.due(words + ", count(4)", x.count(4), want[m]);
        }
    }

    private static void minute() {
        DreamTrain x = new DreamTrain();
        check.due("minute() without sleepers", x.minute(), DreamTrain.STATE);
        places("n0500s050", 1, 2, 3, 4, 5, 5, 5);
        places("n0500s000", 0, 0, 1, 2, 3, 4, 5, 5);
        places("n0500s004", 1, 2, 3, 4, 5, 5);
        places("n0500s010", 1, 1, 2, 3, 4, 5);
        places("n0500s010 s014", 1, 1, 1, 1, 2, 3, 4, 5);
        x = Check.lineOf("n0500s050");
        Check.pass(x, 40);
        check.due("40 deeds", x.count(2), 40);
        check.due("minute() behind 40 deeds", x.minute(), DreamTrain.FULL);
        check.due("it changes nothing", x.count(3), 40);
    }

    private static void minuteByKinds() {
        places("n0500c000", 0, 0, 0, 0, 1, 2, 3, 4, 5);
        places("n0500b004", 1);
        places("n0500b005", 0, 0, 0, 1);
        places("n0500i000", 1);
        places("n0500g003", 0, 1);
        places("n0500l000", 0, 0, 1);
        places("n0500l001", 1);
    }

    private static void feed() {
        DreamTrain x = Check.lineOf("n0500s003 c021");
        check.due("feed(0, 9)", x.feed(0, 9), 3);
        check.due("feed(0, 0)", x.feed(0, 0), 9);
        check.due("feed(1, 1) (the same)", x.feed(1, 1), 1);
        check.due("three deeds", x.count(2), 3);
        check.tells("the supper", x, x.sleeper(0, 2), 0);
        check.due("it dreams by the supper", x.minute(), 0);
        check.due("feed(-1, 0)", x.feed(-1, 0), DreamTrain.BAD);
        check.due("feed(2, 0)", x.feed(2, 0), DreamTrain.BAD);
        check.due("feed(0, 10)", x.feed(0, 10), DreamTrain.BAD);
        check.due("feed(0, -1)", x.feed(0, -1), DreamTrain.BAD);
        x.wake(0);
        check.due("feed one who is awake", x.feed(0, 2), 0);
    }

    private static void wakeAndLull() {
        DreamTrain x = Check.lineOf("n0500s000 s002");
        check.due("wake(0)", x.wake(0), 1);
        check.due("wake(0) again", x.wake(0), DreamTrain.STATE);
        check.due("wake(1)", x.wake(1), 0);
        check.due("all awake", x.count(5), 0);
        check.due("it goes on", x.minute(), 1);
        check.due("lull(1)", x.lull(1), 0);
        check.due("lull(1) again", x.lull(1), DreamTrain.STATE);
        check.due("lull(0)", x.lull(0), 1);
        check.due("all asleep", x.count(5), 3);
        check.due("five deeds", x.count(2), 5);
        check.due("wake(-1)", x.wake(-1), DreamTrain.BAD);
        check.due("wake(2)", x.wake(2), DreamTrain.BAD);
        check.due("lull(-1)", x.lull(-1), DreamTrain.BAD);
        check.due("lull(2)", x.lull(2), DreamTrain.BAD);
    }

    private static void fullIsLast() {
        DreamTrain x = Check.lineOf("n0500s000 s000");
        x.wake(1);
        Check.pass(x, 39);
        check.due("FULL for wake", x.wake(0), DreamTrain.FULL);
        check.due("STATE ahead of FULL for wake", x.wake(1), DreamTrain.STATE);
        check.due("BAD ahead of FULL for wake", x.wake(2), DreamTrain.BAD);
        check.due("FULL for lull", x.lull(1), DreamTrain.FULL);
        check.due("STATE ahead of FULL for lull", x.lull(0), DreamTrain.STATE);
        check.due("BAD ahead of FULL for lull", x.lull(2), DreamTrain.BAD);
        check.due("FULL for feed", x.feed(0, 0), DreamTrain.FULL);
        check.due("BAD ahead of FULL for feed", x.feed(0, 10), DreamTrain.BAD);
        check.due("who is asleep", x.count(5), 1);
        check.due("no finding", x.finding(), 0);
    }

    private static void the40th() {
        DreamTrain x = Check.lineOf("n0500s001 s000");
        Check.pass(x, 39);
        check.due("feed as the 40th deed", x.feed(0, 3), 1);
        check.due("undo(39)", x.undo(39), 1);
        check.due("wake as the 40th deed", x.wake(0), 0);
        check.due("undo(38)", x.undo(38), 2);
        x.wake(0);
        check.due("lull as the 40th deed", x.lull(0), 0);
        check.due("40 deeds", x.count(2), 40);
    }

    private static void undo() {
        DreamTrain x = new DreamTrain();
        check.due("undo(0) without a line", x.undo(0), 0);
        check.due("undo(1) without a line", x.undo(1), DreamTrain.BAD);
        x = Check.lineOf("n0500s010 c021");
        long[] digests = new long[8];
        for (int d = 0; d < 7; d++) {
            digests[d] = x.digest();
            deed(x, d);
        }
        digests[7] = x.digest();
        check.due("undo(-1)", x.undo(-1), DreamTrain.BAD);
        check.due("undo(8)", x.undo(8), DreamTrain.BAD);
        check.due("undo(7)", x.undo(7), 0);
        check.due("digest as it was", x.digest(), digests[7]);
        for (int n = 6; n >= 0; n--) {
            check.due("undo(" + n + ")", x.undo(n), 1);
            check.due("digest as ahead of deed " + n, x.digest(), digests[n]);
        }
        for (int d = 0; d < 7; d++) {
            deed(x, d);
        }
        check.due("undo(2) of 7", x.undo(2), 5);
        check.due("digest as ahead of deed 2", x.digest(), digests[2]);
    }

    private static void deed(DreamTrain x, int d) {
        switch (d) {
            case 1 -> x.feed(1, 9);
            case 2 -> x.wake(0);
            case 3 -> x.feed(1, 0);
            case 5 -> x.lull(0);
            default -> x.minute();
        }
    }

    private static void keepAndOn() {
        DreamTrain x = new DreamTrain();
        check.due("keep(0) without sleepers", x.keep(0), DreamTrain.STATE);
        check.due("keep(3) without sleepers", x.keep(3), DreamTrain.BAD);
        x = Check.lineOf("n0500s010 c021");
        x.wake(0);
        x.feed(1, 8);
        x.minute();
        check.due("keep(2)", x.keep(2), 3);
        long kept = x.digest();
        x.lull(0);
        x.feed(1, 1);
        x.minute();
        check.due("keep(-1)", x.keep(-1), DreamTrain.BAD);
        check.due("on(-1)", x.on(-1), DreamTrain.BAD);
        check.due("on(3)", x.on(3), DreamTrain.BAD);
        check.finds("on(0)", x, x.on(0), NOTHING);
        check.due("on(2)", x.on(2), 3);
        check.due("as it was kept", x.digest(), kept);
        x.line(0);
        x.feed(0, 7);
        x.minute();
        x.feed(0, 8);
        x.keep(2);
        x.undo(0);
        x.minute();
        x.wake(1);
        x.lull(1);
        x.on(2);
        check.due("a kept line's deeds can be undone", x.undo(0), 3);
        check.tells("the supper is the first one", x, x.sleeper(0, 2), 0);
        check.due("the minute is the first one", x.count(3), 0);
        check.due("all are asleep", x.count(5), 3);
        check.due("keep(0)", x.keep(0), 0);
        check.due("two kept", x.count(10), 2);
        check.due("on(2) again", x.on(2), 3);
        check.due("minute as kept in 2", x.count(3), 1);
        check.due("keep(0) over the other", x.keep(0), 3);
        check.due("still two kept", x.count(10), 2);
        Check.pass(x, 4);
        check.due("on(0)", x.on(0), 3);
        check.due("minute as kept", x.count(3), 1);
    }
}
