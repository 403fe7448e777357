/** Promises 25 to 27: intime, feast, bed. */
public final class WhatToDoTest {
    private static final Check check = new Check("WhatToDoTest");

    public static void main(String[] args) {
        intime();
        feast();
        feastOfTwo();
        bed();
        check.end();
    }

    private static void intime() {
        DreamTrain x = new DreamTrain();
        check.due("intime() without sleepers", x.intime(), DreamTrain.STATE);
        x = Check.lineOf("n0507s000");
        check.answers("just in time", x, x.intime(), 0, 0);
        x = Check.lineOf("n0506s000");
        check.answers("a minute too late", x, x.intime(), 1, 1);
        x = Check.lineOf("n0504s000");
        check.due("too far to go", x.intime(), DreamTrain.NONE);
        x = Check.lineOf("n0505s005 s000 s000");
        check.answers("two of three", x, x.intime(), 2, 6);
        x.wake(1);
        check.answers("only who is asleep", x, x.intime(), 1, 4);
        x = Check.lineOf("n0508s000 c023 s030");
        check.answers("of like few the least number", x, x.intime(), 1, 1);
        x = Check.lineOf("n0500s050");
        Check.pass(x, 4);
        check.due("it is over, and not there", x.intime(), DreamTrain.NONE);
        Check.pass(x, 1);
        check.answers("it is over, and there", x, x.intime(), 0, 0);
    }

    private static void feast() {
        DreamTrain x = new DreamTrain();
        check.due("feast(0, 0) without sleepers", x.feast(0, 0), DreamTrain.STATE);
        check.due("feast(21, 0) without sleepers", x.feast(21, 0), DreamTrain.BAD);
        x = Check.lineOf("n0500s003 s022");
        check.answers("by one", x, x.feast(0, 0), 1, 0);
        check.answers("by one behind a minute", x, x.feast(0, 1), 1, 0);
        check.due("nobody dreams so long", x.feast(0, 2), DreamTrain.NONE);
        check.answers("by the second", x, x.feast(2, 2), 1, 14);
        check.answers("in the last place", x, x.feast(5, 5), 0, 0);
        check.due("not by then", x.feast(5, 4), DreamTrain.NONE);
        check.due("beyond the last place", x.feast(6, 40), DreamTrain.NONE);
        x.wake(1);
        check.due("not by one who is awake", x.feast(2, 2), DreamTrain.NONE);
        check.due("feast(-1, 0)", x.feast(-1, 0), DreamTrain.BAD);
        check.due("feast(21, 0)", x.feast(21, 0), DreamTrain.BAD);
        check.due("feast(0, -1)", x.feast(0, -1), DreamTrain.BAD);
        check.due("feast(0, 41)", x.feast(0, 41), DreamTrain.BAD);
        check.due("refused calls tell nothing", x.asked(), 0);
        check.answers("feast(5, 40)", x, x.feast(5, 40), 0, 0);
        check.due("feast(20, 0)", x.feast(20, 0), DreamTrain.NONE);
        x = Check.lineOf("n0500s000");
        Check.pass(x, 3);
        check.due("a place that is past", x.feast(0, 0), DreamTrain.NONE);
    }

    private static void feastOfTwo() {
        DreamTrain x = Check.lineOf("n0500s003 s012");
        check.answers("by one who dreams for two minutes", x, x.feast(1, 2), 1, 15);
        check.answers("by two", x, x.feast(1, 3), 2, 13);
        check.tells("suppers are as they were", x, x.sleeper(0, 2), 3);
        x = Check.lineOf("n0500s003 s002 c031");
        check.answers("two in one place, by two", x, x.feast(0, 3), 2, 14);
        x = Check.lineOf("n0500s003 s002 s003");
        check.answers("by two, and a third as he is", x, x.feast(0, 4), 2, 14);
        x = Check.lineOf("n0500s003 s002");
        check.due("by no two", x.feast(0, 4), DreamTrain.NONE);
    }

    private static void bed() {
        DreamTrain x = new DreamTrain();
        check.due("bed(0) without sleepers", x.bed(0), DreamTrain.BAD);
        x = Check.lineOf("n2000s000");
        check.answers("the last place", x, x.bed(0), 20, 20);
        x = Check.lineOf("n2000g000");
        check.answers("where a signalman is longest", x, x.bed(0), 20, 20);
        x = Check.lineOf("n2000c010 c014");
        check.answers("by one alike", x, x.bed(0), 1, 39);
        x.wake(0);
        check.answers("one who is awake", x, x.bed(0), 20, 20);
        check.tells("one lies where one lay", x, x.sleeper(0, 1), 1);
        check.due("bed(-1)", x.bed(-1), DreamTrain.BAD);
        check.due("bed(2)", x.bed(2), DreamTrain.BAD);
        x = Check.lineOf("n0600 s060 b037 s022 b039 i008 b036");
        check.answers("17 minutes in places 3 and 6: the first", x, x.bed(0), 3, 17);
        x = Check.lineOf("n2000c000 c004 s050");
        check.answers("where it does not come: the first", x, x.bed(2), 0, 40);
    }
}
