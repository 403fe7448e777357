/** Promises 31 to 34: duel, odds, mid, lots. */
public final class TurnsChancesLotsTest {
    private static final Check check = new Check("TurnsChancesLotsTest");

    public static void main(String[] args) {
        duel();
        odds();
        mid();
        lots();
        lotsRefused();
        check.end();
    }

    private static void duel() {
        DreamTrain x = new DreamTrain();
        check.due("duel(0) without sleepers", x.duel(0), DreamTrain.STATE);
        check.due("duel(5) without sleepers", x.duel(5), DreamTrain.BAD);
        x = Check.lineOf("n2000s010");
        check.due("nobody's turn", x.duel(0), 19);
        check.due("it is woken", x.duel(1), 20);
        check.due("it is woken, then lulled", x.duel(2), 19);
        check.due("and woken", x.duel(3), 20);
        check.due("and lulled", x.duel(4), 19);
        check.due("duel(-1)", x.duel(-1), DreamTrain.BAD);
        check.due("duel(5)", x.duel(5), DreamTrain.BAD);
        x = Check.lineOf("n2000c000 c004");
        check.due("held for good", x.duel(0), 0);
        check.due("the one who dreams now is woken", x.duel(1), 20);
        check.due("and lulled again", x.duel(2), 0);
        x.wake(1);
        check.due("the first wakes the other, too", x.duel(1), 20);
        check.due("the second lulls that one", x.duel(2), 16);
    }

    private static void part(String call, DreamTrain x, int got, long upper, long lower) {
        check.due(call, got, 1);
        check.due(call + ", then upper()", x.upper(), upper);
        check.due(call + ", then lower()", x.lower(), lower);
    }

    private static void odds() {
        DreamTrain x = new DreamTrain();
        check.due("odds(0, 0, 0) without sleepers", x.odds(0, 0, 0), DreamTrain.STATE);
        check.due("odds(0, 0, 13) without sleepers", x.odds(0, 0, 13), DreamTrain.BAD);
        x = Check.lineOf("n0500s000 s000");
        part("both are woken", x, x.odds(1, 1, 5), 25, 144);
        part("not both are woken, perhaps", x, x.odds(1, 0, 5), 1, 1);
        part("farther than it can be", x, x.odds(1, 2, 5), 0, 1);
        part("surely not woken", x, x.odds(1, 1, 0), 0, 1);
        part("surely woken", x, x.odds(1, 1, 12), 1, 1);
        part("in lowest terms", x, x.odds(1, 1, 6), 1, 4);
        part("beyond the line", x, x.odds(30, 6, 6), 0, 1);
        part("the last place", x, x.odds(30, 5, 6), 1, 1);
        x.wake(1);
        part("who is awake stays so", x, x.odds(1, 1, 5), 5, 12);
        x.wake(0);
        part("all are awake", x, x.odds(1, 1, 0), 1, 1);
        int[][] bad = {{-1, 0, 0}, {31, 0, 0}, {0, -1, 0}, {0, 21, 0}, {0, 0, -1}, {0, 0, 13}};
        for (int[] b : bad) {
            check.due("odds(" + b[0] + ", " + b[1] + ", " + b[2] + ")", x.odds(b[0], b[1], b[2]), DreamTrain.BAD);
        }
        check.due("refused calls tell nothing", x.upper(), 1);
        x = Check.lineOf("n0500s000 s000 s000 s000 s000 s000");
        part("six are woken by 1 of 12", x, x.odds(1, 1, 1), 1, 2985984);
        part("six are woken by 11 of 12", x, x.odds(1, 1, 11), 1771561, 2985984);
        part("odds(30, 20, 12)", x, x.odds(30, 20, 12), 0, 1);
        check.due("odds tell nothing by asked()", x.asked(), 0);
    }

    private static void mid() {
        DreamTrain x = new DreamTrain();
        check.due("mid(0, 0) without sleepers", x.mid(0, 0), DreamTrain.STATE);
        check.due("mid(31, 0) without sleepers", x.mid(31, 0), DreamTrain.BAD);
        x = Check.lineOf("n0500s000 s034");
        part("mid(1, 5)", x, x.mid(1, 5), 5, 12);
        part("mid(0, 5)", x, x.mid(0, 5), 0, 1);
        part("mid(3, 6)", x, x.mid(3, 6), 2, 1);
        // Both asleep 2, only the first 2, only the second 3, none 4.
        part("mid(4, 6)", x, x.mid(4, 6), 11, 4);
        part("mid(30, 6)", x, x.mid(30, 6), 5, 1);
        part("mid(4, 12)", x, x.mid(4, 12), 4, 1);
        part("mid(4, 11)", x, x.mid(4, 11), 4 * 121 + (2 + 3) * 11 + 2, 144);
        int[][] bad = {{-1, 0}, {31, 0}, {0, -1}, {0, 13}};
        for (int[] b : bad) {
            check.due("mid(" + b[0] + ", " + b[1] + ")", x.mid(b[0], b[1]), DreamTrain.BAD);
        }
        check.due("refused calls tell nothing", x.upper(), 541);
        x = Check.lineOf("n2000s000");
        part("mid(22, 0)", x, x.mid(22, 0), 20, 1);
        part("odds(22, 20, 0)", x, x.odds(22, 20, 0), 1, 1);
        part("odds(21, 20, 0)", x, x.odds(21, 20, 0), 0, 1);
    }

    /** The lots of seed 1: 48271, 182605794, 1291394886, 1914720637, 2078669041, 407355683, .. */
    private static void lots() {
        DreamTrain x = Check.lineOf("n2000s000 s010 s020");
        check.due("48271 modulo 4 is 3: a minute", x.lots(1, 1), 0);
        check.due("one deed", x.count(2), 1);
        check.due("one minute", x.count(3), 1);
        x.undo(0);
        check.due("five", x.lots(5, 1), 1);
        check.due("five deeds", x.count(2), 5);
        check.due("three minutes", x.count(3), 3);
        check.tells("1914720637: sleeper 0, supper 9", x, x.sleeper((1914720637 / 8) % 3, 2), (1914720637 / 64) % 10);
        check.tells("2078669041: a supper", x, x.sleeper((2078669041 / 8) % 3, 2), (2078669041 / 64) % 10);
        check.due("undo(0)", x.undo(0), 5);
        check.due("all as it was", x.count(4) + x.count(3), 0);
        wakingByLots();
        x = Check.lineOf("n2000s000");
        check.due("the greatest seed", x.lots(20, 2147483646), x.count(4));
        check.due("twenty deeds", x.count(2), 20);
    }

    private static void wakingByLots() {
        DreamTrain x = Check.lineOf("n0500s009 s009 s009 s009 s009");
        long lot = 7;
        int asleep = 31;
        for (int d = 0; d < 40; d++) {
            int seed = (int) lot;
            lot = lot * 48271 % 2147483647L;
            if (lot % 4 == 0) {
                asleep ^= 1 << (lot / 8 % 5);
            }
            x.lots(1, seed);
            check.due("who is asleep behind lot " + lot, x.count(5), asleep);
            check.due("deeds", x.count(2), d + 1);
        }
        check.due("40 deeds are undone", x.undo(0), 40);
        check.due("all are asleep", x.count(5), 31);
    }

    private static void lotsRefused() {
        DreamTrain x = new DreamTrain();
        check.due("lots(1, 1) without sleepers", x.lots(1, 1), DreamTrain.STATE);
        check.due("lots(0, 1) without sleepers", x.lots(0, 1), DreamTrain.BAD);
        x = Check.lineOf("n2000s000");
        check.due("lots(0, 1)", x.lots(0, 1), DreamTrain.BAD);
        check.due("lots(21, 1)", x.lots(21, 1), DreamTrain.BAD);
        check.due("lots(1, 0)", x.lots(1, 0), DreamTrain.BAD);
        check.due("lots(1, -1)", x.lots(1, -1), DreamTrain.BAD);
        check.due("lots(1, 2147483647)", x.lots(1, 2147483647), DreamTrain.BAD);
        Check.pass(x, 21);
        check.due("lots(20, 1) behind 21 deeds", x.lots(20, 1), DreamTrain.FULL);
        check.due("none of them is done", x.count(2), 21);
        check.due("BAD ahead of FULL", x.lots(21, 1), DreamTrain.BAD);
        x.lots(19, 1);
        check.due("lots(19, 1) behind 21 deeds", x.count(2), 40);
        check.due("lots(1, 1) behind 40 deeds", x.lots(1, 1), DreamTrain.FULL);
    }
}
