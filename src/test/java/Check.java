/** Compares answers with those that are due, and makes lines from plain words. */
final class Check {
    private final String title;
    private int right;
    private int wrong;

    Check(String title) {
        this.title = title;
    }

    void due(String call, long got, long want) {
        if (got == want) {
            right++;
        } else {
            wrong++;
            System.out.println(title + ": " + call + " answered " + got + ", due is " + want);
        }
    }

    /** An answer that is refused by a finding, which finding() then tells. */
    void finds(String call, DreamTrain x, int got, int finding) {
        due(call, got, DreamTrain.FINDING);
        due(call + ", then finding()", x.finding(), finding);
    }

    /** A call that answers 1 and tells a number by asked(). */
    void tells(String call, DreamTrain x, int got, int told) {
        due(call, got, 1);
        due(call + ", then asked()", x.asked(), told);
    }

    /** A call that answers, and tells a number by asked(). */
    void answers(String call, DreamTrain x, int got, int want, int told) {
        due(call, got, want);
        due(call + ", then asked()", x.asked(), told);
    }

    void end() {
        System.out.println(title + ": " + right + " answers are as due, " + wrong + " are not");
        if (wrong != 0) {
            System.exit(1);
        }
    }

    static void write(DreamTrain x, int t, String words) {
        x.text(t, words.length());
        for (int i = 0; i < words.length(); i++) {
            x.put(t, i, words.charAt(i));
        }
    }

    static DreamTrain lineOf(String words) {
        DreamTrain x = new DreamTrain();
        write(x, 0, words);
        x.line(0);
        return x;
    }

    static void fill(DreamTrain x, int r, int... values) {
        x.row(r, values.length);
        for (int i = 0; i < values.length; i++) {
            x.lay(r, i, values[i]);
        }
    }

    static void pass(DreamTrain x, int minutes) {
        for (int m = 0; m < minutes; m++) {
            x.minute();
        }
    }
}
