/** Promises 22 to 24: train, comes, stood. */
public final class MinutesToComeTest {
    private static final Check check = new Check("MinutesToComeTest");

    public static void main(String[] args) {
        train();
        comes();
        stood();
        aside();
        check.end();
    }

    private static void train() {
        DreamTrain x = new DreamTrain();
        check.due("train(0) without sleepers", x.train(0), DreamTrain.STATE);
        check.due("train(-1) without sleepers", x.train(-1), DreamTrain.BAD);
        x = Check.lineOf("n0500s000 c020");
        int[] places = {0, 0, 0, 1, 2, 3, 4, 5, 5, 5};
        int[] stood = {0, 1, 2, 2, 2, 2, 2, 2, 3, 4};
        for (int n = 0; n < places.length; n++) {
            check.answers("train(" + n + ")", x, x.train(n), places[n], stood[n]);
        }
        check.answers("train(60)", x, x.train(60), 5, 55);
        check.due("train(61)", x.train(61), DreamTrain.BAD);
        check.due("refused calls tell nothing", x.asked(), 55);
        Check.pass(x, 4);
        check.answers("train(2) from minute 4", x, x.train(2), 4, 0);
        x.undo(0);
        x.wake(0);
        check.answers("train(2) with one awake", x, x.train(2), 2, 0);
    }

    private static void comes() {
        DreamTrain x = new DreamTrain();
        check.due("comes() without sleepers", x.comes(), DreamTrain.STATE);
        x = Check.lineOf("n0500s000");
        check.answers("comes()", x, x.comes(), 7, 7);
        Check.pass(x, 3);
        check.answers("comes() in minute 3", x, x.comes(), 4, 7);
        Check.pass(x, 4);
        check.answers("comes() when it is there", x, x.comes(), 0, 7);
        Check.pass(x, 2);
        check.answers("comes() behind that", x, x.comes(), 0, 9);
        x = Check.lineOf("n0500c000 c004");
        check.due("comes() never", x.comes(), DreamTrain.NONE);
        check.due("NONE tells nothing", x.asked(), 0);
        comesAtTheEdge();
    }

    private static void comesAtTheEdge() {
        DreamTrain x = Check.lineOf("n2000 l018 l088 b085 b019 c015 b084");
        check.answers("comes() behind 60 minutes", x, x.comes(), 60, 60);
        check.answers("train(59)", x, x.train(59), 19, 40);
        Check.pass(x, 40);
        check.answers("comes() in minute 40", x, x.comes(), 20, 60);
    }

    private static void stood() {
        DreamTrain x = new DreamTrain();
        check.due("stood(0) without sleepers", x.stood(0), DreamTrain.BAD);
        x = Check.lineOf("n0500s000 s004 i059 g040 s030");
        check.due("where two lie", x.stood(0), 4);
        check.due("on another's account", x.stood(1), 4);
        check.due("stood(-1)", x.stood(-1), DreamTrain.BAD);
        check.due("stood(5)", x.stood(5), DreamTrain.BAD);
        x.wake(0);
        check.due("where one woken lies", x.stood(0), 0);
        check.due("in the last place it stands all the same", x.stood(2), 55);
        x.wake(2);
        check.due("with none of them asleep, too", x.stood(2), 55);
        x = Check.lineOf("n0500c000 c004");
        check.due("all the minutes", x.stood(0), 60);
        x = Check.lineOf("n0500s000 s050");
        check.due("the minutes that it is in the last place", x.stood(1), 53);
        Check.pass(x, 9);
        check.due("all the minutes in the last place", x.stood(1), 60);
        check.due("it is past", x.stood(0), 0);
    }

    private static void aside() {
        DreamTrain x = Check.lineOf("n1022 s010 c032 b045 i061 g083 l084");
        x.minute();
        x.wake(1);
        Check.fill(x, 0, 1, 1, 2);
        long before = x.digest();
        x.train(60);
        x.comes();
        x.stood(0);
        x.intime();
        x.feast(3, 20);
        x.bed(2);
        x.account(0);
        x.kinds(1, 0);
        x.look(3);
        x.duel(4);
        x.odds(30, 5, 5);
        x.mid(30, 5);
        check.due("nothing is done by asides", x.digest(), before);
        check.due("nothing is found", x.finding(), 0);
    }
}
