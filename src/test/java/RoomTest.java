import java.lang.management.ManagementFactory;
import java.lang.reflect.Array;
import java.lang.reflect.Field;
import java.lang.reflect.Modifier;
import java.util.ArrayDeque;
import java.util.Collections;
import java.util.Deque;
import java.util.IdentityHashMap;
import java.util.Set;

/** No call may use up the room that all calls of a run share, and none may throw, whatever it is given. */
public final class RoomTest {
    private static final int[] ANY = {Integer.MIN_VALUE, -1, 0, 1, 2, 3, 5, 6, 20, 21, 40, 41, 60, 61, 100, Integer.MAX_VALUE};
    /** All objects of a run share this room; one that were made for every call of a run would still fit. */
    private static final int ROOM_OBJECTS = 600_000, ROOM_FIELDS = 7_300_000, CALLS = 512;
    private static final String FULL_LINE = "n2060g000c014b020i031l045s050";
    private static final Check check = new Check("RoomTest");

    public static void main(String[] args) throws IllegalAccessException {
        callsMakeNothing();
        anObjectsRoom();
        anythingIsAnswered(new DreamTrain());
        DreamTrain x = Check.lineOf(FULL_LINE);
        anythingIsAnswered(x);
        x = Check.lineOf(FULL_LINE);
        Check.pass(x, 40);
        anythingIsAnswered(x);
        check.end();
    }

    private static long allocated() {
        var threads = (com.sun.management.ThreadMXBean) ManagementFactory.getThreadMXBean();
        return threads.getThreadAllocatedBytes(Thread.currentThread().getId());
    }

    private static void callsMakeNothing() {
        DreamTrain x = Check.lineOf(FULL_LINE);
        callAll(x);
        long before = allocated();
        for (int round = 0; round < 100; round++) {
            callAll(x);
        }
        long made = allocated() - before;
        // The measure itself may make a little; one object a call would be 60,000 bytes and more.
        check.due("calls make objects of " + made + " bytes", made < 10_000 ? 1 : 0, 1);
    }

    /** As nothing is made by calls, what an object holds at first is all that it ever takes. */
    private static void anObjectsRoom() throws IllegalAccessException {
        Set<Object> held = Collections.newSetFromMap(new IdentityHashMap<>());
        Deque<Object> open = new ArrayDeque<>();
        open.add(new DreamTrain());
        int fields = 0;
        while (!open.isEmpty()) {
            Object one = open.remove();
            if (held.add(one)) {
                fields += one.getClass().isArray() ? elements(one, open) : fields(one, open);
            }
        }
        check.due("an object holds " + held.size() + " objects", held.size() <= ROOM_OBJECTS / CALLS ? 1 : 0, 1);
        check.due("an object holds " + fields + " fields", fields <= ROOM_FIELDS / CALLS ? 1 : 0, 1);
    }

    private static int elements(Object array, Deque<Object> open) {
        if (!array.getClass().getComponentType().isPrimitive()) {
            for (Object element : (Object[]) array) {
                open.add(element);
            }
        }
        return Array.getLength(array);
    }

    private static int fields(Object one, Deque<Object> open) throws IllegalAccessException {
        int many = 0;
        for (Field f : one.getClass().getDeclaredFields()) {
            if (!Modifier.isStatic(f.getModifiers())) {
                many++;
                f.setAccessible(true);
                if (!f.getType().isPrimitive()) {
                    open.add(f.get(one));
                }
            }
        }
        return many;
    }

    private static void callAll(DreamTrain x) {
        x.text(1, 9);
        x.put(1, 0, 110);
        x.fault(1);
        x.line(0);
        x.row(0, 3);
        x.lay(0, 1, 1);
        x.lay(0, 2, 1);
        x.copy(0, 0, 0, 1, 2);
        x.mean(0);
        x.sleeper(0, 4);
        x.mark(0, 4);
        x.lots(20, 77);
        x.keep(0);
        x.on(0);
        x.undo(3);
        x.train(60);
        x.comes();
        x.stood(3);
        x.intime();
        x.feast(20, 20);
        x.bed(1);
        x.account(0);
        x.kinds(0, 0);
        x.look(0);
        x.duel(4);
        x.odds(30, 10, 5);
        x.mid(30, 5);
        x.digest();
    }

    private static void anythingIsAnswered(DreamTrain x) {
        for (int a : ANY) {
            for (int b : ANY) {
                for (int c : ANY) {
                    x.lay(a, b, c);
                    x.put(a, b, c);
                    x.odds(a, b, c);
                    x.copy(a, b, c, a, b);
                    x.copy(a, b, a, c, c);
                }
                callWithTwo(x, a, b);
            }
            callWithOne(x, a);
        }
        check.due("all was answered", 1, 1);
    }

    private static void callWithTwo(DreamTrain x, int a, int b) {
        x.row(a, b);
        x.at(a, b);
        x.text(a, b);
        x.sleeper(a, b);
        x.mark(a, b);
        x.dreams(a, b);
        x.feed(a, b);
        x.feast(a, b);
        x.kinds(a, b);
        x.mid(a, b);
        x.lots(a, b);
    }

    private static void callWithOne(DreamTrain x, int a) {
        x.mean(a);
        x.fault(a);
        x.line(a);
        x.wake(a);
        x.lull(a);
        x.keep(a);
        x.on(a);
        x.train(a);
        x.stood(a);
        x.bed(a);
        x.account(a);
        x.look(a);
        x.duel(a);
        x.undo(a);
        x.tear(a);
        x.count(a);
        x.findings(a);
        x.minute();
        x.comes();
        x.intime();
        x.digest();
    }
}
