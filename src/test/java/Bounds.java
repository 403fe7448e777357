import java.lang.reflect.InvocationTargetException;
import java.lang.reflect.Method;
import java.util.Arrays;
import java.util.Comparator;
import java.util.Set;
import java.util.StringJoiner;
import java.util.TreeSet;
import java.util.function.Supplier;
import java.util.regex.Matcher;
import java.util.regex.Pattern;

/**
 * Runs tests of boundary cases, each a method of its own that is named by its promise (or by the terms).
 * A class of tests extends it for its words alone.
 */
abstract class Bounds {
    static final int BAD = DreamTrain.BAD, FULL = DreamTrain.FULL, STATE = DreamTrain.STATE, NONE = DreamTrain.NONE;
    static final int NOTHING = 1, BEYOND = 2, UNLIKE = 3, NOUGHT = 4, SIZE = 5;
    static final int MIN = Integer.MIN_VALUE, MAX = Integer.MAX_VALUE;

    private static final Pattern NAME = Pattern.compile("(?:promise(\\d\\d)|terms)[A-Z]\\w*");
    private static String test = "";
    private static int right;
    private static int wrong;

    /** Each promise from first to last has to have a test. */
    static void run(Class<?> tests, int first, int last) throws ReflectiveOperationException {
        Method[] methods = tests.getDeclaredMethods();
        Arrays.sort(methods, Comparator.comparing(Method::getName));
        Set<Integer> promises = new TreeSet<>();
        int many = 0;
        for (Method method : methods) {
            Matcher name = NAME.matcher(method.getName());
            if (name.matches()) {
                runOne(method);
                many++;
                promises.add(name.group(1) == null ? 0 : Integer.parseInt(name.group(1)));
            } else if (method.getName().startsWith("promise") || method.getName().startsWith("terms")) {
                throw new IllegalStateException(method.getName() + " is not named as tests are");
            }
        }
        test = tests.getName();
        for (int promise = first; promise <= last; promise++) {
            same("tests of promise " + promise, promises.contains(promise) ? 1 : 0, 1);
        }
        System.out.println(tests.getName() + ": " + many + " tests, " + right + " answers are as due, " + wrong + " are not");
        if (wrong != 0) {
            System.exit(1);
        }
    }

    private static void runOne(Method method) throws ReflectiveOperationException {
        test = method.getName();
        int before = right + wrong;
        method.setAccessible(true);
        method.invoke(null);
        same("whether it looks at anything", right + wrong > before ? 1 : 0, 1);
    }

    static void same(String what, long got, long want) {
        if (got == want) {
            right++;
        } else {
            wrong++;
            System.out.println(test + ": " + what + " answered " + got + ", due is " + want);
        }
    }

    static long answer(Object x, String name, int... args) {
        Class<?>[] types = new Class<?>[args.length];
        Arrays.fill(types, int.class);
        Object[] boxed = Arrays.stream(args).boxed().toArray();
        try {
            return ((Number) x.getClass().getDeclaredMethod(name, types).invoke(x, boxed)).longValue();
        } catch (InvocationTargetException thrown) {
            throw new IllegalStateException(words(name, args) + " threw", thrown.getCause());
        } catch (ReflectiveOperationException none) {
            throw new IllegalStateException("there is no " + words(name, args), none);
        }
    }

    static String words(String name, int... args) {
        StringJoiner out = new StringJoiner(", ", name + "(", ")");
        for (int arg : args) {
            out.add(Integer.toString(arg));
        }
        return out.toString();
    }

    static void due(long want, DreamTrain x, String name, int... args) {
        same(words(name, args), answer(x, name, args), want);
    }

    /** An answer, and what asked() tells then. */
    static void dueAndTold(long want, int told, DreamTrain x, String name, int... args) {
        due(want, x, name, args);
        same(words(name, args) + ", then asked()", x.asked(), told);
    }

    /** A call that answers 1, and tells a number by asked(). */
    static void tells(int told, DreamTrain x, String name, int... args) {
        dueAndTold(1, told, x, name, args);
    }

    /** A call that answers 1, and tells upper and lower. */
    static void part(long upper, long lower, DreamTrain x, String name, int... args) {
        due(1, x, name, args);
        same(words(name, args) + ", then upper()", x.upper(), upper);
        same(words(name, args) + ", then lower()", x.lower(), lower);
    }

    /** An answer that is BAD, FULL, STATE or NONE: nothing at all is changed by it. */
    static void refused(int want, Supplier<DreamTrain> state, String name, int... args) {
        DreamTrain x = state.get();
        DreamTrain twin = state.get();
        due(want, x, name, args);
        same(words(name, args) + ", then finding()", x.finding(), twin.finding());
        for (int f = NOTHING; f <= SIZE; f++) {
            same(words(name, args) + ", then findings(" + f + ")", x.findings(f), twin.findings(f));
        }
        sameElse(x, twin, words(name, args));
    }

    static void bad(Supplier<DreamTrain> state, String name, int... args) {
        refused(BAD, state, name, args);
    }

    /** An answer FINDING: nothing but finding() and findings() is changed by it. */
    static void finds(int finding, Supplier<DreamTrain> state, String name, int... args) {
        DreamTrain x = state.get();
        DreamTrain twin = state.get();
        due(DreamTrain.FINDING, x, name, args);
        same(words(name, args) + ", then finding()", x.finding(), finding);
        for (int f = NOTHING; f <= SIZE; f++) {
            int more = f == finding ? 1 : 0;
            same(words(name, args) + ", then findings(" + f + ")", x.findings(f), twin.findings(f) + more);
        }
        sameElse(x, twin, words(name, args));
    }

    private static void sameElse(DreamTrain x, DreamTrain twin, String call) {
        long[] got = Probe.of(x);
        long[] want = Probe.of(twin);
        same(call + ", then how much there is to see", got.length, want.length);
        for (int i = 0; i < Math.min(got.length, want.length); i++) {
            same(call + ", then look " + i + " of Probe", got[i], want[i]);
        }
    }

    /** One argument (at a position, from 0) may be low to high: one step to either side of each, and all ints' ends. */
    static void bounds(Supplier<DreamTrain> state, int position, int low, int high, String name, int... args) {
        int[] changed = args.clone();
        for (int taken : new int[] {low, Math.min(low + 1, high), Math.max(high - 1, low), high}) {
            changed[position] = taken;
            same(words(name, changed) + " is BAD", answer(state.get(), name, changed) == BAD ? 1 : 0, 0);
        }
        for (int none : new int[] {low - 1, high + 1, MIN, MAX}) {
            changed[position] = none;
            bad(state, name, changed);
        }
    }
}
