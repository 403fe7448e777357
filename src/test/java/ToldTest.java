/** Promises 35 to 41: asked, upper, lower, count, finding, findings, digest. */
public final class ToldTest {
    private static final Check check = new Check("ToldTest");

    public static void main(String[] args) {
        asked();
        upperAndLower();
        count();
        findings();
        digest();
        constants();
        check.end();
    }

    private static void asked() {
        DreamTrain x = new DreamTrain();
        check.due("asked() at first", x.asked(), 0);
        x = Check.lineOf("n0500s000 s043");
        Check.fill(x, 0, 5, 6);
        x.lay(0, 0, 7);
        check.due("by lay()", x.asked(), 5);
        x.at(0, 1);
        check.due("by at()", x.asked(), 6);
        x.lay(0, 1, 9);
        x.mean(0);
        check.due("by mean()", x.asked(), 8);
        x.sleeper(1, 1);
        check.due("by sleeper()", x.asked(), 4);
        x.train(60);
        check.due("by train()", x.asked(), 55);
        x.comes();
        check.due("by comes()", x.asked(), 7);
        x.bed(0);
        check.due("by bed()", x.asked(), 34);
        x.feast(0, 0);
        check.due("by feast()", x.asked(), 0);
        x.look(0);
        check.due("by look()", x.asked(), 3);
        Check.fill(x, 0, 0);
        x.account(0);
        check.due("by account()", x.asked(), 1);
        x.train(9);
        x.intime();
        check.due("by intime(), which answers NONE", x.asked(), 4);
        others(x);
        check.due("not by others", x.asked(), 4);
    }

    private static void others(DreamTrain x) {
        x.copy(0, 0, 0, 0, 0);
        x.text(3, 3);
        x.put(3, 1, 4);
        x.fault(0);
        x.mark(0, 1);
        x.dreams(0, 0);
        x.minute();
        x.feed(0, 4);
        x.wake(0);
        x.lull(0);
        x.undo(1);
        x.keep(0);
        x.on(0);
        x.stood(1);
        x.kinds(0, 0);
        x.duel(3);
        x.odds(3, 2, 1);
        x.mid(3, 2);
        x.lots(3, 4);
        x.count(1);
        x.digest();
        x.row(1, 2);
        x.tear(1);
        x.line(0);
        x.at(4, 0);
    }

    private static void upperAndLower() {
        DreamTrain x = new DreamTrain();
        check.due("upper() at first", x.upper(), 0);
        check.due("lower() at first", x.lower(), 1);
        x = Check.lineOf("n0500s000");
        x.odds(1, 1, 8);
        check.due("upper() by odds()", x.upper(), 2);
        check.due("lower() by odds()", x.lower(), 3);
        x.mid(2, 3);
        check.due("upper() by mid()", x.upper(), 1);
        check.due("lower() by mid()", x.lower(), 2);
        x.mid(2, 13);
        x.train(2);
        check.due("upper() stays", x.upper(), 1);
        check.due("lower() stays", x.lower(), 2);
    }

    private static void count() {
        DreamTrain x = Check.lineOf("n2033 g000 c014 s020 s031 g045 i050");
        x.row(0, 3);
        x.row(5, 0);
        x.text(2, 1);
        x.wake(1);
        x.minute();
        x.minute();
        x.keep(0);
        x.keep(2);
        int[] due = {6, 20, 3, 2, 0, 0b111101, 0b010001, 33, 2, 2, 2, 3};
        for (int what = 0; what < due.length; what++) {
            check.due("count(" + what + ")", x.count(what), due[what]);
        }
        check.due("count(-1)", x.count(-1), DreamTrain.BAD);
        check.due("count(12)", x.count(12), DreamTrain.BAD);
    }

    private static void findings() {
        DreamTrain x = new DreamTrain();
        check.due("finding() at first", x.finding(), 0);
        x = Check.lineOf("n0500s000");
        x.tear(0);
        x.row(0, 0);
        x.lay(0, 0, 1);
        x.at(0, 0);
        x.mark(0, 1);
        x.mark(0, 2);
        x.mark(0, 3);
        for (int m = 0; m < 4; m++) {
            x.mean(0);
        }
        for (int n = -5; n < 0; n++) {
            x.row(0, n);
        }
        for (int f = 1; f <= 5; f++) {
            check.due("findings(" + f + ")", x.findings(f), f);
        }
        check.due("the latest", x.finding(), 5);
        x.tear(1);
        check.due("the latest now", x.finding(), 1);
        x.row(7, 0);
        x.minute();
        x.lull(0);
        check.due("not by what is else refused", x.finding(), 1);
        check.due("findings(0)", x.findings(0), DreamTrain.BAD);
        check.due("findings(6)", x.findings(6), DreamTrain.BAD);
        check.due("findings(-1)", x.findings(-1), DreamTrain.BAD);
    }

    private static long stirred(long... values) {
        long h = 17;
        for (long v : values) {
            h = 31 * h + v;
        }
        return h;
    }

    private static void digest() {
        DreamTrain x = new DreamTrain();
        check.due("digest() at first", x.digest(), stirred(
                0, 0, 0, 0, 0, 0, 0, 0, 0, 0, 0, 0,
                -1, -1, -1, -1, -1, -1, -1, -1, -1, -1, -1, -1, -1));
        x = Check.lineOf("n0507s000c043");
        x.text(0, 1);
        x.text(3, 2);
        x.put(3, 1, 200);
        x.wake(1);
        x.keep(1);
        x.minute();
        Check.fill(x, 4, -9, 1000000);
        x.row(0, 0);
        check.due("digest()", x.digest(), stirred(
                2, 5, 2, 1, 0, 1, 1, 7, 2, 2, 1, 1,
                0, 0, 0, 1, 1,
                1, 4, 3, 0, 0,
                -1, 1, -1,
                0, -1, -1, -1, 2, -9, 1000000, -1,
                1, 32, -1, -1, 2, 32, -56));
        check.due("digest() changes nothing", x.asked(), 0);
    }

    private static void constants() {
        check.due("BAD", DreamTrain.BAD, -1);
        check.due("FULL", DreamTrain.FULL, -2);
        check.due("FINDING", DreamTrain.FINDING, -3);
        check.due("STATE", DreamTrain.STATE, -4);
        check.due("SPENT", DreamTrain.SPENT, -6);
        check.due("NONE", DreamTrain.NONE, -9);
    }
}
