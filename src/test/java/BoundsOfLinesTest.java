/** Boundary cases of promises 8 to 14: text, put, fault, line, sleeper, mark, dreams. */
public final class BoundsOfLinesTest extends Bounds {
    /** Text 3 is missing in each of these states. */
    private static final int MISSING = 3;
    private static final String ALL_KINDS = "n2060 s010 c010 b010 i010 g010 l010";
    /** Whether t and the supper together, from 0 to 35, leave over 0 or 1 by 6, or 0 by 5. */
    private static final String BOYS = "110001" + "110010" + "110100" + "111000" + "110000" + "110001";
    private static final int S = 0, C = 1, B = 2, I = 3, G = 4, L = 5;

    public static void main(String[] args) throws ReflectiveOperationException {
        run(BoundsOfLinesTest.class, 8, 14);
    }

    // ---- promise 8

    static void promise08TextsAre0To3() {
        bounds(States::fresh, 0, 0, 3, "text", 0, 1);
        bounds(States::busy, 0, 0, 3, "text", 0, 1);
        DreamTrain x = new DreamTrain();
        for (int t = 0; t <= 3; t++) {
            due(t + 1, x, "text", t, t + 1);
            due(t + 1, x, "count", 9);
            due(1032, x, "put", t, t, 65);
        }
    }

    static void promise08NAbove60IsBad() {
        DreamTrain x = new DreamTrain();
        due(59, x, "text", 0, 59);
        due(DreamTrain.FINDING, x, "put", 0, 59, 65);
        due(60, x, "text", 0, 60);
        due(1032, x, "put", 0, 59, 65);
        due(DreamTrain.FINDING, x, "put", 0, 60, 65);
        bad(States::fresh, "text", 0, 61);
        bad(States::fresh, "text", 3, MAX);
        bad(States::busy, "text", 0, 61);
        bad(States::busy, "text", MISSING, MAX);
    }

    static void promise08NBelow0IsSize() {
        finds(SIZE, States::fresh, "text", 0, -1);
        finds(SIZE, States::fresh, "text", 3, MIN);
        finds(SIZE, States::busy, "text", 0, -1);
        finds(SIZE, States::busy, "text", MISSING, MIN);
    }

    static void promise08NOf0IsATextThatIsThere() {
        DreamTrain x = new DreamTrain();
        due(0, x, "text", 0, 0);
        due(1, x, "count", 9);
        due(0, x, "fault", 0);
        due(1, x, "text", 0, 1);
        due(1, x, "fault", 0);
    }

    static void promise08BadAheadOfSize() {
        bad(States::busy, "text", -1, -1);
        bad(States::busy, "text", 4, -1);
        bad(States::busy, "text", MAX, MIN);
    }

    static void promise08ATextAnewIsOfBlanks() {
        DreamTrain x = new DreamTrain();
        x.text(0, 60);
        for (int i = 0; i < 60; i++) {
            x.put(0, i, 7);
        }
        due(2, x, "text", 0, 2);
        due(1032, x, "put", 0, 0, 32);
        due(60, x, "text", 0, 60);
        due(60, x, "fault", 0);
        due(1032, x, "put", 0, 0, 32);
        due(1032, x, "put", 0, 59, 32);
    }

    // ---- promise 9

    static void promise09TextsAre0To3() {
        bounds(States::busy, 0, 0, 3, "put", 0, 0, 65);
        bounds(States::fresh, 0, 0, 3, "put", 0, 0, 65);
    }

    static void promise09TheTextIsMissing() {
        finds(NOTHING, States::busy, "put", MISSING, 0, 65);
        finds(NOTHING, States::busy, "put", MISSING, -1, 65);
        finds(NOTHING, States::busy, "put", MISSING, MAX, 65);
    }

    static void promise09AByteThatThereIsNot() {
        int size = States.WORDS.length();
        due(1110, States.busy(), "put", 0, 0, 65);
        due(1052, States.busy(), "put", 0, size - 1, 65);
        for (int i : new int[] {-1, size, MIN, MAX}) {
            finds(BEYOND, States::busy, "put", 0, i, 65);
        }
    }

    static void promise09NoByteInATextOfNone() {
        finds(BEYOND, States::busy, "put", 1, 0, 65);
        finds(BEYOND, States::busy, "put", 1, -1, 65);
    }

    static void promise09TheLastByteOf60() {
        DreamTrain x = new DreamTrain();
        x.text(3, 60);
        due(1032, x, "put", 3, 59, 65);
        due(1065, x, "put", 3, 59, 66);
        due(DreamTrain.FINDING, x, "put", 3, 60, 65);
        due(BEYOND, x, "finding");
    }

    static void promise09VIsCutToAByte() {
        DreamTrain x = new DreamTrain();
        x.text(0, 1);
        int[][] cuts = {
            {0, 0}, {1, 1}, {-1, -1}, {126, 126}, {127, 127}, {128, -128}, {129, -127}, {-127, -127}, {-128, -128},
            {-129, 127}, {255, -1}, {256, 0}, {257, 1}, {-256, 0}, {-257, -1}, {MAX, -1}, {MIN, 0}, {MIN + 1, 1},
        };
        int was = 32;
        for (int[] cut : cuts) {
            due(1000 + was, x, "put", 0, 0, cut[0]);
            was = cut[1];
        }
        due(1000 + was, x, "put", 0, 0, 0);
    }

    static void promise09TellsNothingByAsked() {
        DreamTrain x = States.busy();
        dueAndTold(1110, -5, x, "put", 0, 0, 110);
    }

    // ---- promise 10

    /** Whatever has a fault can't be laid, and leaves a line as it was. */
    private static void fault(int want, String words) {
        DreamTrain x = new DreamTrain();
        Check.write(x, 1, words);
        same("fault of '" + words + "'", x.fault(1), want);
        if (want == NONE) {
            same("line of '" + words + "' is refused", x.line(1) > 0 ? 0 : 1, 0);
        } else {
            same("line of '" + words + "'", x.line(1), STATE);
        }
        due(0, x, "finding");
    }

    static void promise10TextsAre0To3() {
        bounds(States::busy, 0, 0, 3, "fault", 0);
        bounds(States::fresh, 0, 0, 3, "fault", 0);
    }

    static void promise10TheTextIsMissing() {
        finds(NOTHING, States::busy, "fault", MISSING);
    }

    static void promise10FaultsAndNoneChangeNothing() {
        refused(NONE, States::busy, "fault", 0);
        refused(NONE, States::laid, "fault", 0);
        refused(0, States::busy, "fault", 1);
        refused(3, States::busy, "fault", 2);
    }

    static void promise10TheTextsEndComesTooEarly() {
        String words = "n2060 s059";
        for (int size = 0; size < words.length(); size++) {
            fault(size, words.substring(0, size));
        }
        fault(NONE, words);
        fault(11, words + "l");
        fault(12, words + "l2");
        fault(13, words + "l20");
        fault(NONE, words + "l200");
    }

    static void promise10TheEndOfATextOf60ComesTooEarly() {
        String words = "n2060s059";
        for (int size = 1; size < words.length(); size++) {
            fault(60, " ".repeat(60 - size) + words.substring(0, size));
        }
        fault(NONE, " ".repeat(60 - words.length()) + words);
    }

    static void promise10BlanksAlone() {
        fault(0, "");
        fault(1, " ");
        fault(59, " ".repeat(59));
        fault(60, " ".repeat(60));
    }

    static void promise10NoSleeper() {
        fault(5, "n2060");
        fault(6, "n2060 ");
        fault(60, "n2060" + " ".repeat(55));
        fault(60, " ".repeat(55) + "n2060");
    }

    static void promise10BlanksAheadBetweenBehind() {
        fault(NONE, "n2060s059");
        fault(NONE, " n2060s059");
        fault(NONE, "n2060 s059");
        fault(NONE, "n2060s059 ");
        fault(NONE, "n2060s059c000");
        fault(NONE, "n2060s059   c000");
        fault(NONE, " ".repeat(51) + "n2060s059");
        fault(NONE, "n2060" + " ".repeat(51) + "s059");
        fault(NONE, "n2060s059" + " ".repeat(51));
    }

    static void promise10NoBlanksWithinItems() {
        fault(1, "n 2060s059");
        fault(2, "n2 060s059");
        fault(3, "n20 60s059");
        fault(4, "n206 0s059");
        fault(6, "n2060s 059");
        fault(7, "n2060s0 59");
        fault(8, "n2060s05 9");
    }

    static void promise10OnlyBytesOf32AreBlanks() {
        for (int sign : new int[] {0, 9, 10, 13, 31, 33, 127, 128 + 32, 255}) {
            fault(0, (char) sign + "n2060s059");
            fault(5, "n2060" + (char) sign + "s059");
            fault(9, "n2060s059" + (char) sign);
        }
    }

    static void promise10TheFirstItemIsN() {
        for (char sign : "mosNcbigl0".toCharArray()) {
            fault(0, sign + "2060s059");
            fault(2, "  " + sign + "2060s059");
        }
        fault(0, (char) (128 + 'n') + "2060s059");
    }

    static void promise10NIsNoSleeper() {
        fault(5, "n2060n2060s059");
        fault(9, "n2060s059n2060");
    }

    static void promise10TheLastPlaceIs05To20() {
        fault(1, "n0060s009");
        fault(1, "n0460s009");
        fault(NONE, "n0560s009");
        fault(NONE, "n0660s009");
        fault(NONE, "n1960s009");
        fault(NONE, "n2060s009");
        fault(1, "n2160s009");
        fault(1, "n9960s009");
        fault(3, "  n04");
        fault(3, "  n21");
    }

    static void promise10ItIsDueInMinute00To60() {
        fault(NONE, "n0500s009");
        fault(NONE, "n0501s009");
        fault(NONE, "n0559s009");
        fault(NONE, "n0560s009");
        fault(3, "n0561s009");
        fault(3, "n0570s009");
        fault(3, "n0599s009");
        fault(5, "  n0561");
    }

    static void promise10PlacesAre0ToTheLast() {
        fault(NONE, "n0560s009");
        fault(NONE, "n0560s049");
        fault(NONE, "n0560s059");
        fault(6, "n0560s069");
        fault(6, "n0560s999");
        fault(NONE, "n1060s109");
        fault(6, "n1060s119");
        fault(NONE, "n2060s199");
        fault(NONE, "n2060s209");
        fault(6, "n2060s219");
        fault(6, "n2060s21");
        fault(11, "n0560s059 l069");
    }

    static void promise10SuppersAreOneFigure0To9() {
        for (char figure = '0'; figure <= '9'; figure++) {
            fault(NONE, "n0560s05" + figure);
        }
        fault(8, "n0560s05/");
        fault(8, "n0560s05:");
        fault(9, "n0560s0500");
        fault(8, "n0560s05s059");
    }

    static void promise10AFigureThatIsNone() {
        for (int sign : new int[] {'/', ':', '-', '+', 'n', 's', 0, 128 + '0', 255}) {
            char other = (char) sign;
            fault(1, "n" + other + "060s059");
            fault(2, "n2" + other + "60s059");
            fault(3, "n20" + other + "0s059");
            fault(4, "n206" + other + "s059");
            fault(6, "n2060s" + other + "59");
            fault(7, "n2060s0" + other + "9");
            fault(8, "n2060s05" + other);
        }
    }

    static void promise10AFigureThatIsNoneAheadOfANumberThatIsNone() {
        fault(2, "n9x60s059");
        fault(4, "n209xs059");
        fault(7, "n2060s9x9");
        fault(2, "n9");
        fault(4, "n209");
        fault(7, "n2060s9");
    }

    static void promise10TheFirstFaultOfSome() {
        fault(1, "n2161s219");
        fault(3, "n2061s219");
        fault(6, "n2060s21xx");
        fault(1, "n0461");
    }

    static void promise10LettersOfKinds() {
        for (int sign = 1; sign < 256; sign++) {
            boolean isKind = "scbigl".indexOf(sign) >= 0;
            fault(isKind ? NONE : sign == ' ' ? 6 : 5, "n2060" + (char) sign + (sign == ' ' ? "" : "059"));
        }
    }

    static void promise10SleepersAre1To6() {
        String five = "n0560s050c041b032i023g014";
        fault(NONE, five);
        fault(NONE, five + "l005");
        fault(29, five + "l005l005");
        fault(30, five + "l005 s050");
        fault(32, five + "l005   s");
    }

    static void promise10BehindSixOnlyBlanks() {
        String six = "n0560s050c041b032i023g014l005";
        fault(NONE, six + " ");
        fault(NONE, six + " ".repeat(31));
        fault(59, six + " ".repeat(30) + "s");
        fault(29, six + "x");
        fault(29, six + "5");
        fault(31, six + "  n");
    }

    static void promise10BytesAreCutAheadOfReading() {
        DreamTrain x = Check.lineOf("n2060s059");
        x.put(0, 0, 256 + 'n');
        x.put(0, 1, '2' - 256);
        x.put(0, 5, 's' + 0x7fffff00);
        due(NONE, x, "fault", 0);
    }

    // ---- promise 11

    static void promise11TextsAre0To3() {
        bounds(States::busy, 0, 0, 3, "line", 0);
        bounds(States::fresh, 0, 0, 3, "line", 0);
    }

    static void promise11TheTextIsMissing() {
        finds(NOTHING, States::busy, "line", MISSING);
        finds(NOTHING, States::laid, "line", MISSING);
        finds(NOTHING, States::full, "line", MISSING);
    }

    static void promise11AFaultIsState() {
        refused(STATE, States::busy, "line", 1);
        refused(STATE, States::busy, "line", 2);
        refused(STATE, States::laid, "line", 2);
        refused(STATE, States::full, "line", 2);
    }

    static void promise11OneSleeperAndSix() {
        DreamTrain x = new DreamTrain();
        Check.write(x, 0, "n0500s000");
        Check.write(x, 3, "n2060l209g198i187b176c165s154");
        due(1, x, "line", 0);
        due(6, x, "line", 3);
        due(20, x, "count", 1);
        due(60, x, "count", 7);
        int[] kinds = {L, G, I, B, C, S};
        for (int i = 0; i < 6; i++) {
            tells(kinds[i], x, "sleeper", i, 0);
            tells(20 - i, x, "sleeper", i, 1);
            tells(9 - i, x, "sleeper", i, 2);
            tells(1, x, "sleeper", i, 3);
        }
        due(63, x, "count", 5);
        due(1, x, "line", 0);
        due(1, x, "count", 5);
        due(1, x, "count", 0);
        due(5, x, "count", 1);
        due(0, x, "count", 7);
        due(BAD, x, "sleeper", 1, 0);
    }

    static void promise11AnewIsMinute0Place0AllAsleepNoDeeds() {
        for (int deeds : new int[] {7, 39, 40}) {
            DreamTrain x = States.busyWith(deeds);
            due(6, x, "line", 0);
            int[] want = {6, 10, 0, 0, 0, 63, 0b010111, 22, 5, 3, 0, 2};
            for (int what = 0; what < want.length; what++) {
                due(want[what], x, "count", what);
            }
            tells(2, x, "sleeper", 1, 2);
            due(0, x, "undo", 0);
            due(BAD, x, "undo", 1);
            due(1, x, "minute");
        }
    }

    static void promise11KeptLinesGo() {
        DreamTrain x = States.busy();
        x.keep(1);
        due(3, x, "count", 10);
        due(6, x, "line", 0);
        due(0, x, "count", 10);
        for (int k = 0; k <= 2; k++) {
            due(DreamTrain.FINDING, x, "on", k);
            due(NOTHING, x, "finding");
        }
    }

    static void promise11TheTextMayGoOn() {
        DreamTrain x = States.busy();
        long before = x.digest();
        x.text(0, 0);
        due(6, x, "count", 0);
        Check.write(x, 0, States.WORDS);
        same("digest() with the text as it was", x.digest(), before);
    }

    // ---- promise 12

    static void promise12SleepersOfALine() {
        bounds(States::busy, 0, 0, 5, "sleeper", 0, 0);
        bounds(States.line("n0500s000"), 0, 0, 0, "sleeper", 0, 0);
        bounds(States.line("n0500s000c000"), 0, 0, 1, "sleeper", 0, 0);
    }

    static void promise12WhatIs0To4() {
        bounds(States::busy, 1, 0, 4, "sleeper", 0, 0);
        bounds(States::busy, 1, 0, 4, "sleeper", 5, 0);
    }

    static void promise12NoSleepers() {
        bad(States::fresh, "sleeper", 0, 0);
        bad(States::laid, "sleeper", 0, 4);
    }

    static void promise12AsleepOrAwake() {
        DreamTrain x = States.busy();
        tells(1, x, "sleeper", 3, 3);
        tells(0, x, "sleeper", 4, 3);
        tells(1, x, "sleeper", 5, 3);
    }

    static void promise12OneWhoIsAwakeDreamsNot() {
        DreamTrain x = Check.lineOf("n0500s000");
        tells(1, x, "sleeper", 0, 4);
        x.wake(0);
        tells(0, x, "sleeper", 0, 4);
        x.lull(0);
        tells(1, x, "sleeper", 0, 4);
    }

    static void promise12DreamsInThisMinute() {
        DreamTrain x = Check.lineOf("n0500s050");
        int[] dreams = {1, 1, 0, 0, 0, 0, 1, 1, 0};
        for (int dream : dreams) {
            tells(dream, x, "sleeper", 0, 4);
            x.minute();
        }
    }

    // ---- promise 13

    static void promise13SleepersOfALine() {
        bounds(States.line("n0500c000"), 0, 0, 0, "mark", 0, 1);
        bounds(States.line("n0500c000c000c000c000c000c000"), 0, 0, 5, "mark", 0, 1);
        bad(States::laid, "mark", 0, 1);
    }

    static void promise13KindsAre1To5() {
        bounds(States::busy, 1, 1, 5, "mark", 1, 1);
        bounds(States::busy, 1, 1, 5, "mark", 0, 1);
    }

    static void promise13Kind0IsBad() {
        for (int i = 0; i <= 5; i++) {
            bad(States::busy, "mark", i, 0);
        }
    }

    static void promise13ASleeperOfAnotherKindIsUnlike() {
        boolean[][] is = {
            {false, false, false, false, false},
            {true, false, false, false, false},
            {false, true, false, false, false},
            {false, false, true, false, false},
            {true, false, false, true, false},
            {false, true, false, false, true},
        };
        for (int i = 0; i <= 5; i++) {
            for (int kind = 1; kind <= 5; kind++) {
                if (is[i][kind - 1]) {
                    same("mark(" + i + ", " + kind + ") is refused", States.busy().mark(i, kind) < 0 ? 1 : 0, 0);
                } else {
                    finds(UNLIKE, States::busy, "mark", i, kind);
                }
            }
        }
    }

    static void promise13BadAheadOfUnlike() {
        bad(States::busy, "mark", 6, 4);
        bad(States::busy, "mark", -1, 1);
        bad(States::busy, "mark", 0, 6);
    }

    /** What each supper from 0 to 9 is marked by, whoever is awake and whatever minute it is. */
    private static void marks(int i, int kind, int... want) {
        DreamTrain x = Check.lineOf(ALL_KINDS);
        x.wake(i);
        Check.pass(x, 21);
        for (int supper = 0; supper <= 9; supper++) {
            x.feed(i, supper);
            same("with supper " + supper + " mark(" + i + ", " + kind + ")", x.mark(i, kind), want[supper]);
        }
    }

    static void promise13CheeseOfMinutes0To59() {
        marks(C, C, 40, 40, 40, 40, 40, 40, 40, 40, 40, 40);
    }

    static void promise13ASignalmanAsOneOfCheese() {
        marks(G, C, 50, 50, 50, 50, 50, 50, 50, 50, 50, 50);
    }

    static void promise13ASchoolboyHasMore() {
        marks(B, B, 108, 108, 108, 108, 108, 108, 108, 108, 108, 108);
    }

    static void promise13ALoverHasMoreOrFewer() {
        marks(L, B, 108, 80, 108, 80, 108, 80, 108, 80, 108, 80);
    }

    static void promise13AnInsomniacsFirstMinuteFrom20On() {
        marks(I, I, 24, 23, 22, 21, 20, 20, 24, 23, 22, 21);
    }

    static void promise13ASignalmansFirstMinuteFrom30On() {
        marks(G, G, 34, 33, 32, 31, 30, 30, 34, 33, 32, 31);
    }

    static void promise13ALoverHasNoneFewerOrAllFewer() {
        marks(L, L, 0, 28, 0, 28, 0, 28, 0, 28, 0, 28);
    }

    static void promise13TellsNothingByAsked() {
        dueAndTold(40, -5, States.busy(), "mark", 1, 1);
    }

    // ---- promise 14

    static void promise14SleepersOfALine() {
        bounds(States::busy, 0, 0, 5, "dreams", 0, 0);
        bounds(States.line("n0500s000"), 0, 0, 0, "dreams", 0, 0);
        bad(States::laid, "dreams", 0, 0);
    }

    static void promise14MinutesAre0To99() {
        bounds(States::busy, 1, 0, 99, "dreams", 0, 0);
        bounds(States::busy, 1, 0, 99, "dreams", 4, 0);
        DreamTrain x = Check.lineOf(ALL_KINDS);
        due(1, x, "dreams", S, 0);
        due(0, x, "dreams", S, 98);
        due(0, x, "dreams", S, 99);
        x.feed(S, 9);
        due(1, x, "dreams", S, 99);
        due(0, x, "dreams", S, 98);
        due(1, x, "dreams", G, 98);
        due(1, x, "dreams", G, 99);
    }

    /** Whether one dreams from a minute on, a sign each. */
    private static void from(int i, int supper, int first, String want) {
        DreamTrain x = Check.lineOf(ALL_KINDS);
        x.feed(i, supper);
        for (int m = 0; m < want.length(); m++) {
            due(want.charAt(m) - '0', x, "dreams", i, first + m);
        }
    }

    static void promise14ASleeperBy6Leaves0Or1() {
        from(S, 0, 0, "1100001100001");
        from(S, 1, 0, "1000011000011");
        from(S, 9, 0, "0001100001100");
        from(S, 0, 90, "1100001100");
    }

    static void promise14OneOfCheeseBy6Leaves0To3() {
        from(C, 0, 0, "1111001111001");
        from(C, 1, 0, "1110011110011");
        from(C, 9, 0, "1001111001111");
        from(C, 0, 90, "1111001111");
    }

    static void promise14ASchoolboyBy5Leaves0Too() {
        from(B, 0, 0, BOYS);
        from(B, 1, 0, BOYS.substring(1));
        from(B, 9, 0, BOYS.substring(9));
        from(B, 0, 90, "1100011100");
    }

    static void promise14AnInsomniacNotAheadOfMinute20() {
        from(I, 5, 18, "001000011");
        from(I, 4, 19, "011000011");
        from(I, 0, 0, "00000000000000000000");
        from(I, 0, 20, "0000110000");
    }

    static void promise14ASignalmanAlwaysFromMinute30On() {
        from(G, 5, 28, "101111111111");
        from(G, 0, 26, "1100111111");
        from(G, 0, 22, "00111100111");
        from(G, 5, 24, "0111101");
    }

    static void promise14ALoverNotIfTheSupperIsOdd() {
        for (int supper = 1; supper <= 9; supper += 2) {
            from(L, supper, 0, "0".repeat(100));
        }
        for (int supper = 0; supper <= 8; supper += 2) {
            from(L, supper, 0, BOYS.substring(supper));
        }
    }

    static void promise14IfAsleep() {
        DreamTrain x = Check.lineOf("n0500s000");
        x.wake(0);
        due(1, x, "dreams", 0, 1);
        due(0, x, "dreams", 0, 2);
    }
}
