import java.lang.reflect.Field;
import java.util.function.Supplier;

/** Objects to begin with; each call makes a new one in the same state. */
final class States {
    static final String WORDS = "n1022 s010 c032 b045 i061 g083 l084";
    static final int DEEDS_OF_BUSY = 7;

    private States() {
    }

    static DreamTrain fresh() {
        return new DreamTrain();
    }

    /**
     * No line. Rows: 0 of three, 1 of none, 2 of forty, 3 of twenty places, 4 of twenty-one; 5 is missing.
     * Texts: 0 of a line, 1 of none, 2 of a fault; 3 is missing.
     */
    static DreamTrain laid() {
        DreamTrain x = new DreamTrain();
        Check.fill(x, 0, 4, -5, 7);
        x.row(1, 0);
        x.row(2, 40);
        x.lay(2, 0, Integer.MIN_VALUE);
        x.lay(2, 39, Integer.MAX_VALUE);
        x.row(3, 20);
        x.row(4, 21);
        x.lay(4, 20, 1);
        Check.write(x, 0, WORDS);
        x.text(1, 0);
        Check.write(x, 2, "n1061s010");
        x.tear(5);
        x.mean(1);
        x.at(0, 1);
        return x;
    }

    /** As laid, with a line, seven deeds (sleeper 4 is awake), lines kept in 0 and 2, a part told. */
    static DreamTrain busy() {
        DreamTrain x = laid();
        x.line(0);
        x.minute();
        x.feed(1, 9);
        x.keep(0);
        x.wake(2);
        x.minute();
        x.keep(2);
        x.lull(2);
        x.wake(4);
        x.minute();
        x.odds(6, 5, 5);
        x.at(0, 1);
        return x;
    }

    /** As busy, with so many deeds. */
    static DreamTrain busyWith(int deeds) {
        DreamTrain x = busy();
        for (int d = DEEDS_OF_BUSY; d < deeds; d++) {
            x.minute();
        }
        return x;
    }

    static DreamTrain full() {
        return busyWith(40);
    }

    /** A line laid by words, and nothing done. */
    static Supplier<DreamTrain> line(String words) {
        return () -> Check.lineOf(words);
    }

    /** A line laid by words, of which everybody is woken. */
    static DreamTrain allAwake(String words) {
        DreamTrain x = Check.lineOf(words);
        for (int i = 0; i < x.count(0); i++) {
            x.wake(i);
        }
        return x;
    }

    /** A line laid by words, with a row 0. */
    static Supplier<DreamTrain> seen(String words, int... places) {
        return () -> {
            DreamTrain x = Check.lineOf(words);
            Check.fill(x, 0, places);
            return x;
        };
    }

    /**
     * Puts the minute. With 40 deeds at most no calls come to minute 99, and the document tells all the
     * same what is due then: so a test has to reach into the object.
     */
    static DreamTrain inMinute(DreamTrain x, int minute) {
        try {
            Field now = DreamTrain.class.getDeclaredField("now");
            now.setAccessible(true);
            Object line = now.get(x);
            Field clock = line.getClass().getDeclaredField("clock");
            clock.setAccessible(true);
            clock.setInt(line, minute);
        } catch (ReflectiveOperationException other) {
            throw new IllegalStateException("the minute is held elsewhere now: tell inMinute where", other);
        }
        return x;
    }
}
