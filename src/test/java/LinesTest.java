/** Promises 8 to 14: text, put, fault, line, sleeper, mark, dreams. */
public final class LinesTest {
    private static final int NOTHING = 1, BEYOND = 2, UNLIKE = 3, SIZE = 5;
    private static final Check check = new Check("LinesTest");

    public static void main(String[] args) {
        text();
        put();
        faults();
        faultRefused();
        line();
        sleeper();
        mark();
        dreams();
        check.end();
    }

    private static void text() {
        DreamTrain x = new DreamTrain();
        check.due("text(0, 0)", x.text(0, 0), 0);
        check.due("text(3, 60)", x.text(3, 60), 60);
        check.due("two texts", x.count(9), 2);
        check.due("text(-1, 1)", x.text(-1, 1), DreamTrain.BAD);
        check.due("text(4, -1)", x.text(4, -1), DreamTrain.BAD);
        check.due("text(0, 61)", x.text(0, 61), DreamTrain.BAD);
        check.finds("text(0, -1)", x, x.text(0, -1), SIZE);
        x.text(1, 2);
        check.due("a text is of blanks", x.put(1, 1, 65), 1032);
        x.text(1, 1);
        x.text(1, 2);
        check.due("a text anew is of blanks", x.put(1, 1, 65), 1032);
    }

    private static void put() {
        DreamTrain x = new DreamTrain();
        x.text(2, 2);
        check.due("put(2, 0, 200)", x.put(2, 0, 200), 1032);
        check.due("200 is cut to -56", x.put(2, 0, -128), 944);
        check.due("put behind -128", x.put(2, 0, 127), 872);
        check.due("put behind 127", x.put(2, 0, 256 + 7), 1127);
        check.due("263 is cut to 7", x.put(2, 0, 0), 1007);
        check.due("put behind 0", x.put(2, 0, 1), 1000);
        check.due("the other byte is as it was", x.put(2, 1, 1), 1032);
        check.due("put(-1, 0, 1)", x.put(-1, 0, 1), DreamTrain.BAD);
        check.due("put(4, 0, 1)", x.put(4, 0, 1), DreamTrain.BAD);
        check.finds("put(1, 9, 1)", x, x.put(1, 9, 1), NOTHING);
        check.finds("put(2, 2, 1)", x, x.put(2, 2, 1), BEYOND);
        check.finds("put(2, -1, 1)", x, x.put(2, -1, 1), BEYOND);
        check.due("put tells nothing by asked()", x.asked(), 0);
    }

    private static void fault(String words, int want) {
        DreamTrain x = new DreamTrain();
        Check.write(x, 1, words);
        check.due("fault of '" + words + "'", x.fault(1), want);
        int line = x.line(1);
        check.due("line of '" + words + "'", line == DreamTrain.STATE ? 1 : 0, want == DreamTrain.NONE ? 0 : 1);
    }

    private static void faults() {
        fault("", 0);
        fault("   ", 3);
        fault("n", 1);
        fault("  n", 3);
        fault(" x", 1);
        fault("s010", 0);
        fault("N1000s010", 0);
        fault("n ", 1);
        fault("n1", 2);
        fault("n3", 2);
        fault("n3x", 2);
        fault("nx", 1);
        fault("n1x", 2);
        fault("n1 0", 2);
        fault("n04", 1);
        fault("n21", 1);
        fault("n05", 3);
        fault("n20", 3);
        fault("n99x", 1);
        fault("n05 00", 3);
        fault("n05x", 3);
        fault("n056", 4);
        fault("n056x", 4);
        fault("n0561", 3);
        fault("n0599s", 3);
        fault("n0560", 5);
        fault("n0560   ", 8);
        fault("n0560n0560", 5);
        fault("n0560 x", 6);
        fault("n0560s", 6);
        fault("n0560s ", 6);
        fault("n0560s0", 7);
        fault("n0560s0 ", 7);
        fault("n0560s06", 6);
        fault("n0560s06x", 6);
        fault("n0560s05", 8);
        fault("n0560s05 ", 8);
        fault("n0560s05x", 8);
        fault("n0560s050", DreamTrain.NONE);
        fault("n0560s059", DreamTrain.NONE);
        fault("n0500s009", DreamTrain.NONE);
        fault("n2060s200", DreamTrain.NONE);
        fault("n2060s210", 6);
        fault("n0560s0500", 9);
        fault("  n0560   s050   ", DreamTrain.NONE);
        fault("n0560s050 c041b032i023g014l005", DreamTrain.NONE);
        fault("n0560s050 c041b032i023g014l005   ", DreamTrain.NONE);
        fault("n0560s050 c041b032i023g014l005  s050", 32);
        fault("n0560s050 c041b032i023g014l005x", 30);
        fault("n0560s050 c041b032i023g014l065", 27);
        fault("n0560s050 \t", 10);
        fault("n0560s050" + (char) 160, 9);
        fault("n0560s05" + (char) (48 + 128), 8);
        fault("n0560:050", 5);
        fault("n/560", 1);
        fault("n:560", 1);
        fault("n0560s05:", 8);
        fault("n0560s05/", 8);
        fault(" ".repeat(60), 60);
        fault(" ".repeat(59) + "n", 60);
        fault(" ".repeat(57) + "n05", 60);
        fault(" ".repeat(55) + "n0560", 60);
        fault("n0560" + " ".repeat(52) + "s05", 60);
        fault("n0560" + " ".repeat(51) + "s059", DreamTrain.NONE);
    }

    private static void faultRefused() {
        DreamTrain x = new DreamTrain();
        check.due("fault(-1)", x.fault(-1), DreamTrain.BAD);
        check.due("fault(4)", x.fault(4), DreamTrain.BAD);
        check.finds("fault(3)", x, x.fault(3), NOTHING);
        Check.write(x, 3, "n0560s050");
        check.due("fault(3)", x.fault(3), DreamTrain.NONE);
        check.due("a fault lays no line", x.count(0), 0);
        Check.write(x, 3, "n0560s050c041");
        x.text(3, 9);
        check.due("what was behind a text's end is gone", x.fault(3), 9);
    }

    private static void line() {
        DreamTrain x = new DreamTrain();
        check.due("line(-1)", x.line(-1), DreamTrain.BAD);
        check.due("line(4)", x.line(4), DreamTrain.BAD);
        check.finds("line(2)", x, x.line(2), NOTHING);
        Check.write(x, 2, "n0715s010 c023");
        check.due("line(2)", x.line(2), 2);
        x.wake(1);
        x.feed(0, 4);
        Check.pass(x, 3);
        x.keep(0);
        x.keep(1);
        x.keep(2);
        Check.write(x, 0, "n2060s010c023c065x");
        check.due("line of a fault", x.line(0), DreamTrain.STATE);
        check.due("it changes no sleepers", x.count(0), 2);
        check.due("it changes no last place", x.count(1), 7);
        check.due("it changes no deeds", x.count(2), 5);
        check.due("it changes no minute", x.count(3), 3);
        check.due("it changes no kept line", x.count(10), 3);
        check.due("line(2) anew", x.line(2), 2);
        int[] anew = {2, 7, 0, 0, 0, 3, 3, 15, 0, 2, 0, 1};
        for (int what = 0; what < anew.length; what++) {
            check.due("anew count(" + what + ")", x.count(what), anew[what]);
        }
        for (int k = 0; k < 3; k++) {
            check.finds("kept line " + k + " is gone", x, x.on(k), NOTHING);
        }
        check.tells("the supper is anew", x, x.sleeper(0, 2), 0);
        check.due("undo(1) anew", x.undo(1), DreamTrain.BAD);
        x.text(2, 0);
        check.due("the line does not hang on its text", x.count(0), 2);
    }

    private static void sleeper() {
        DreamTrain x = Check.lineOf("n2060 s010 c023 b040 i061 g193 l204");
        int[][] due = {{0, 1, 0, 1, 1}, {1, 2, 3, 1, 1}, {2, 4, 0, 1, 1}, {3, 6, 1, 1, 0}, {4, 19, 3, 1, 1}, {5, 20, 4, 1, 0}};
        for (int i = 0; i < due.length; i++) {
            for (int what = 0; what < 5; what++) {
                check.tells("sleeper(" + i + ", " + what + ")", x, x.sleeper(i, what), due[i][what]);
            }
        }
        x.wake(1);
        check.tells("one who is awake", x, x.sleeper(1, 3), 0);
        check.tells("one who is awake dreams not", x, x.sleeper(1, 4), 0);
        Check.pass(x, 1);
        check.tells("lover in minute 1", x, x.sleeper(5, 4), 1);
        check.due("sleeper(-1, 0)", x.sleeper(-1, 0), DreamTrain.BAD);
        check.due("sleeper(6, 0)", x.sleeper(6, 0), DreamTrain.BAD);
        check.due("sleeper(0, -1)", x.sleeper(0, -1), DreamTrain.BAD);
        check.due("sleeper(0, 5)", x.sleeper(0, 5), DreamTrain.BAD);
        check.due("refused calls tell nothing", x.asked(), 1);
    }

    private static void mark() {
        DreamTrain x = Check.lineOf("n2060 s010 c023 b040 i061 g193 l204");
        int[][] due = {
            {-3, -3, -3, -3, -3},
            {40, -3, -3, -3, -3},
            {-3, 108, -3, -3, -3},
            {-3, -3, 23, -3, -3},
            {50, -3, -3, 31, -3},
            {-3, 108, -3, -3, 0},
        };
        for (int i = 0; i < due.length; i++) {
            for (int kind = 1; kind < 6; kind++) {
                check.due("mark(" + i + ", " + kind + ")", x.mark(i, kind), due[i][kind - 1]);
            }
            check.due("mark(" + i + ", 0)", x.mark(i, 0), DreamTrain.BAD);
            check.due("mark(" + i + ", 6)", x.mark(i, 6), DreamTrain.BAD);
            check.due("mark(" + i + ", -1)", x.mark(i, -1), DreamTrain.BAD);
        }
        check.finds("mark(0, 4)", x, x.mark(0, 4), UNLIKE);
        check.due("mark(6, 1)", x.mark(6, 1), DreamTrain.BAD);
        check.due("mark(-1, 1)", x.mark(-1, 1), DreamTrain.BAD);
        x.feed(5, 7);
        check.due("a lover of an odd supper dreams in 28 fewer", x.mark(5, 5), 28);
        check.due("and in 20 fewer than a sleeper", x.mark(5, 2), 80);
        x.wake(3);
        x.feed(3, 4);
        check.due("an insomniac as if asleep", x.mark(3, 3), 20);
        x.feed(3, 3);
        check.due("an insomniac of supper 3", x.mark(3, 3), 21);
        int[] first = {34, 33, 32, 31, 30, 30, 34, 33, 32, 31};
        for (int supper = 0; supper < 10; supper++) {
            x.feed(4, supper);
            check.due("a signalman of supper " + supper, x.mark(4, 4), first[supper]);
        }
    }

    private static void dreams() {
        DreamTrain x = Check.lineOf("n2060 s010 c010 b010 i010 g010 l010");
        String[] inMinutes0To35 = {
            "110000110000110000110000110000110000",
            "111100111100111100111100111100111100",
            boys(),
            "000000000000000000000000110000110000",
            "111100111100111100111100111100111111",
            boys(),
        };
        for (int i = 0; i < 6; i++) {
            for (int t = 0; t < 36; t++) {
                check.due("dreams(" + i + ", " + t + ")", x.dreams(i, t), inMinutes0To35[i].charAt(t) - '0');
            }
        }
        check.due("a signalman in minute 99", x.dreams(4, 99), 1);
        check.due("a sleeper in minute 97", x.dreams(0, 97), 1);
        check.due("a sleeper in minute 98", x.dreams(0, 98), 0);
        x.feed(5, 5);
        check.due("a lover of an odd supper", x.dreams(5, 0), 0);
        x.feed(0, 5);
        check.due("t and the supper together", x.dreams(0, 1), 1);
        x.wake(0);
        check.due("as if asleep", x.dreams(0, 1), 1);
        check.due("dreams(0, -1)", x.dreams(0, -1), DreamTrain.BAD);
        check.due("dreams(0, 100)", x.dreams(0, 100), DreamTrain.BAD);
        check.due("dreams(6, 0)", x.dreams(6, 0), DreamTrain.BAD);
        check.due("dreams(-1, 0)", x.dreams(-1, 0), DreamTrain.BAD);
    }

    /** Minutes that leave over 0 or 1 by 6, or 0 by 5. */
    private static String boys() {
        boolean[] does = new boolean[36];
        for (int t = 0; t < 36; t += 6) {
            does[t] = true;
            does[t + 1] = true;
        }
        for (int t = 0; t < 36; t += 5) {
            does[t] = true;
        }
        StringBuilder out = new StringBuilder();
        for (boolean dream : does) {
            out.append(dream ? '1' : '0');
        }
        return out.toString();
    }
}
