import com.sun.management.ThreadMXBean;
import java.lang.management.ManagementFactory;
import java.lang.reflect.Array;
import java.lang.reflect.Field;
import java.lang.reflect.Modifier;
import java.util.ArrayDeque;
import java.util.Collections;
import java.util.Deque;
import java.util.IdentityHashMap;
import java.util.Set;

/**
 * The room that a run takes: what an object holds is walked through and counted, and 512 calls of each kind have to
 * leave it as it is and to make nothing on their way. It is run by java -Xint, as a compiled call can leave out objects
 * that the class asks for.
 */
public final class RoomTest {
    private static final ThreadMXBean THREADS = (ThreadMXBean) ManagementFactory.getThreadMXBean();
    private static final int CALLS = 512;
    /** A run's room of some 600,000 objects and 7.3 million fields and elements holds a thousand of these. */
    private static final int MOST_OBJECTS = 200;
    private static final int MOST_CELLS = 6000;
    private static final String ROWS = "abcdacbdbadcabdcaaccbbdd/dabcabdcdcbaacbdaaccdbbd";

    private interface Call {
        long of(AnchorChains x, int number);
    }

    private int objects = 0;
    private int cells = 0;

    public static void main(String[] args) throws ReflectiveOperationException {
        AnchorChains x = Due.rows(ROWS);
        RoomTest first = held(new AnchorChains());
        Due.same("few objects", first.objects <= MOST_OBJECTS ? 0 : first.objects, 0);
        Due.same("few fields and elements", first.cells <= MOST_CELLS ? 0 : first.cells, 0);
        System.out.println(first.objects + " objects and arrays, " + first.cells + " fields and elements");
        changes(x);
        texts(x);
        x.set(0, 3);
        looks(x);
        RoomTest last = held(x);
        Due.same("objects after all calls", last.objects, first.objects);
        Due.same("fields and elements after all calls", last.cells, first.cells);
        Due.end();
    }

    private static RoomTest held(AnchorChains x) throws ReflectiveOperationException {
        RoomTest room = new RoomTest();
        Set<Object> known = Collections.newSetFromMap(new IdentityHashMap<>());
        Deque<Object> open = new ArrayDeque<>();
        open.add(x);
        known.add(x);
        while (!open.isEmpty()) {
            Object next = open.remove();
            room.objects++;
            if (next.getClass().isArray()) {
                room.cells += Array.getLength(next);
            } else if (next instanceof String text) {
                room.cells += text.length();
            } else {
                room.countFields(next, known, open);
            }
        }
        return room;
    }

    private void countFields(Object object, Set<Object> known, Deque<Object> open) throws ReflectiveOperationException {
        for (Field field : object.getClass().getDeclaredFields()) {
            if (Modifier.isStatic(field.getModifiers())) {
                continue;
            }
            cells++;
            if (!field.getType().isPrimitive()) {
                field.setAccessible(true);
                Object held = field.get(object);
                Due.same(field + " holds something", held == null ? 0 : 1, 1);
                if (held != null && known.add(held)) {
                    open.add(held);
                }
            }
        }
    }

    private static void changes(AnchorChains x) {
        makesNothing(x, "put() and take()", (y, i) -> y.count(0) < 24 ? y.put(0, 0, i % 4) : y.take(0, i % 20, 4));
        makesNothing(x, "change()", (y, i) -> y.change(0, i % 20, i % 4));
        makesNothing(x, "turn()", (y, i) -> y.turn(0, i % 10, 10 + i % 10));
        makesNothing(x, "copy()", (y, i) -> y.count(1) < 20 ? y.copy(0, 0, i % 4, 1) : y.take(1, 0, 20));
        makesNothing(x, "exchange()", (y, i) -> y.exchange());
        makesNothing(x, "set()", (y, i) -> y.set(0, 2 + i % 4));
        makesNothing(x, "undo()", (y, i) -> y.exchange() + y.undo());
    }

    private static void texts(AnchorChains x) {
        makesNothing(x, "append() and read()", (y, i) -> typeAndRead(y, i));
        makesNothing(x, "clearBuffer()", (y, i) -> y.clearBuffer());
        Due.type(x, ROWS);
        makesNothing(x, "firstError()", (y, i) -> y.firstError());
        makesNothing(x, "keep()", (y, i) -> y.keep(i % 2));
        makesNothing(x, "restore()", (y, i) -> y.restore(i % 2));
        x.read();
    }

    private static int typeAndRead(AnchorChains x, int number) {
        int place = number % (ROWS.length() + 1);
        if (number >= CALLS - CALLS % (ROWS.length() + 1)) {
            return x.clearBuffer();
        }
        return place < ROWS.length() ? x.append(ROWS.charAt(place)) : x.read();
    }

    private static void looks(AnchorChains x) {
        makesNothing(x, "sign()", (y, i) -> y.sign(1, i % 24));
        makesNothing(x, "anchor()", (y, i) -> y.anchor(i % y.count(2), i % 4));
        makesNothing(x, "turned()", (y, i) -> y.turned(i % y.count(3), i % 3));
        makesNothing(x, "gap()", (y, i) -> y.gap(i % 9, i % 5));
        makesNothing(x, "partner()", (y, i) -> y.partner(0, i % 24));
        makesNothing(x, "doubled()", (y, i) -> y.doubled(1, i % 3));
        makesNothing(x, "count()", (y, i) -> y.count(i % 15));
        makesNothing(x, "setting()", (y, i) -> y.setting(i % 4));
        makesNothing(x, "ifSet()", (y, i) -> y.ifSet(0, 2 + i % 4));
        makesNothing(x, "ifChanged()", (y, i) -> y.ifChanged(1, i % 24, i % 4));
        makesNothing(x, "bestLength()", (y, i) -> y.bestLength());
        makesNothing(x, "likeShare()", (y, i) -> y.likeShare() > 0.5 ? 1 : 0);
        makesNothing(x, "digest()", (y, i) -> y.digest());
    }

    /** What the machine makes once is made in one of the rounds, so the one that makes least is told. */
    private static void makesNothing(AnchorChains x, String told, Call call) {
        long least = Long.MAX_VALUE;
        for (int round = 0; round < 2; round++) {
            long before = THREADS.getCurrentThreadAllocatedBytes();
            for (int i = 0; i < CALLS; i++) {
                call.of(x, i);
            }
            least = Math.min(least, THREADS.getCurrentThreadAllocatedBytes() - before);
        }
        Due.same("bytes made by " + CALLS + " calls of " + told, least, 0);
    }
}
