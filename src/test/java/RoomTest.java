import java.lang.management.ManagementFactory;
import java.lang.reflect.Array;
import java.lang.reflect.Field;
import java.lang.reflect.Modifier;
import java.util.ArrayDeque;
import java.util.Collections;
import java.util.IdentityHashMap;
import java.util.NoSuchElementException;
import java.util.Set;

/**
 * What a run makes, counted as the dearest call times all calls, stays well within the room: also if the
 * constructor is taken for a call.
 */
public final class RoomTest {
    private static final int CALLS = 512;
    private static final int KINDS = 50;
    private static final int FIRST_THROWING = 48;
    private static final int DIVIDING = 43;
    private static final int MEASURED = 5;

    /** All kinds so many times, and what makes the county, are no more calls than an object is good for. */
    private static final int ROUNDS = 7;
    private static final long ROOM_OBJECTS = 600_000;
    private static final long ROOM_ELEMENTS = 7_300_000;

    /** No object is smaller. */
    private static final long OBJECT_BYTES = 8;

    private static final Check c = new Check("RoomTest");
    private static final com.sun.management.ThreadMXBean BEAN =
            (com.sun.management.ThreadMXBean) ManagementFactory.getThreadMXBean();
    private static final long ME = Thread.currentThread().getId();
    private static int sum = 0;

    public static void main(String[] args) {
        Held atFirst = new Held(new WellsNotEven());
        System.out.println("RoomTest: the constructor makes " + atFirst.objects + " objects and arrays, "
                + atFirst.elements + " fields and elements");
        c.due("objects, a constructor each call", atFirst.objects * CALLS <= ROOM_OBJECTS / 2, true);
        c.due("elements, a constructor each call", atFirst.elements * CALLS <= ROOM_ELEMENTS / 2, true);
        dearestCall();
        heldAfterAll(atFirst);
        c.finish();
    }

    /** An element has a byte at least, so that no more elements than bytes can have been made. */
    private static void dearestCall() {
        for (int kind = 0; kind < KINDS; kind++) {
            // What the machine makes when it first meets a class or a method is not the program's.
            call(fullCounty(), kind);
            bytesOf(fullCounty(), kind);
        }
        long dearest = 0;
        for (int kind = 0; kind < KINDS; kind++) {
            long first = leastBytes(kind, false);
            long second = leastBytes(kind, true);
            if (kind < FIRST_THROWING) {
                c.due("bytes made by the first call of kind " + kind, first, 0);
                c.due("bytes made by the second call of kind " + kind, second, 0);
            }
            dearest = Math.max(dearest, Math.max(first, second));
        }
        System.out.println("RoomTest: the dearest call makes " + dearest + " bytes");
        c.due("elements, the dearest call each call", dearest * CALLS <= ROOM_ELEMENTS / 2, true);
        c.due("objects, the dearest call each call", dearest / OBJECT_BYTES * CALLS <= ROOM_OBJECTS / 2, true);
        c.due("an exception is counted", dearest > 0, true);
    }

    /** The program makes the same each time; now and then the machine makes something more beside it. */
    private static long leastBytes(int kind, boolean calledAlready) {
        long least = Long.MAX_VALUE;
        for (int i = 0; i < MEASURED; i++) {
            WellsNotEven x = kind == DIVIDING ? oneFarm() : fullCounty();
            if (calledAlready) {
                call(x, kind);
            }
            least = Math.min(least, bytesOf(x, kind));
        }
        return least;
    }

    private static long bytesOf(WellsNotEven x, int kind) {
        long start = BEAN.getThreadAllocatedBytes(ME);
        long none = BEAN.getThreadAllocatedBytes(ME) - start;
        long before = BEAN.getThreadAllocatedBytes(ME);
        call(x, kind);
        return BEAN.getThreadAllocatedBytes(ME) - before - none;
    }

    /** Nothing that calls make stays in the object. */
    private static void heldAfterAll(Held atFirst) {
        WellsNotEven x = fullCounty();
        for (int i = 0; i < ROUNDS * KINDS; i++) {
            call(x, i % KINDS);
        }
        Held then = new Held(x);
        c.due("objects held after all calls", then.objects, atFirst.objects);
        c.due("elements held after all calls", then.elements, atFirst.elements);
    }

    private static WellsNotEven oneFarm() {
        WellsNotEven x = new WellsNotEven();
        x.sign('4' << 24 | '1' << 16 | '+' << 8 | '1');
        x.county();
        return x;
    }

    private static WellsNotEven fullCounty() {
        WellsNotEven x = new WellsNotEven();
        for (int i = 0; i < 9; i++) {
            x.sign('4' << 24 | '1' << 16 | '+' << 8 | '1');
            x.end(4);
            x.county();
        }
        for (int a = 0; a < 9; a++) {
            for (int b = 0; b < a; b++) {
                x.touch(a, b, (a + b) % 10);
            }
        }
        x.seen(100, 0);
        x.keep(1);
        x.carry(0, 1);
        return x;
    }

    private static void call(WellsNotEven x, int kind) {
        if (kind < 24) {
            sum += kind < 12 ? callCounty(x, kind) : callBuckets(x, kind);
        } else {
            sum += kind < 36 ? callAhead(x, kind) : callKept(x, kind);
        }
    }

    private static int callCounty(WellsNotEven x, int kind) {
        switch (kind) {
            case 0: return x.sign(0x34302B39);
            case 1: return x.end(0) ? 1 : 0;
            case 2:
                x.sign(0x61622F33);
                return x.county();
            case 3: return x.farm(8, 3);
            case 4: return x.stone(0, 1);
            case 5: return x.touch(0, 1, 9) ? 1 : 0;
            case 6: return x.law(0, 9);
            case 7: return x.set(0, 0, 99);
            case 8: return x.sheet(2, 9, 1, 7);
            case 9: return x.carry(0, 1);
            case 10:
                x.sign(0x613E622A);
                x.sign(0x393B613E);
                x.sign(0x632A3900);
                x.end(11);
                return x.night();
            default: return x.week(9, 511);
        }
    }

    private static int callBuckets(WellsNotEven x, int kind) {
        switch (kind) {
            case 12: return x.weeks(50);
            case 13: return x.undo();
            case 14: return x.even();
            case 15: return x.fewest();
            case 16: return x.reach(4);
            case 17: return x.selfish(0);
            case 18: return x.rests(40);
            case 19: return x.alter(0);
            case 20: return x.fill(0, 99);
            case 21: return x.colours();
            case 22: return x.clique();
            default: return x.lowest();
        }
    }

    private static int callAhead(WellsNotEven x, int kind) {
        switch (kind) {
            case 24: return x.place(511);
            case 25: return x.lasts();
            case 26: return x.later(8, 100);
            case 27: return x.still();
            case 28: return x.keeps(12, 2);
            case 29: return x.mercy(100);
            case 30: return x.drought(-9);
            case 31: return x.clash(0, 1);
            case 32: return x.payer(100);
            case 33: return x.pray(511);
            case 34: return x.seal();
            default: return x.road(0, 8);
        }
    }

    private static int callKept(WellsNotEven x, int kind) {
        switch (kind) {
            case 36: return x.boon();
            case 37: return x.seen(99, 36);
            case 38: return x.forget();
            case 39: return x.springs(0);
            case 40: return x.stones(0, 1);
            case 41: return x.nights();
            case 42: return x.sunday();
            case DIVIDING: return x.divide(0, 0);
            case 44: return x.keep(0) ? 1 : 0;
            case 45: return x.again(1) ? 1 : 0;
            case 46: return x.count(3);
            case 47:
                x.even();
                return x.row(0);
            case 48: return thrownByFarm(x);
            default: return thrownByRow(x);
        }
    }

    private static int thrownByFarm(WellsNotEven x) {
        try {
            return x.farm(9, 0);
        } catch (NoSuchElementException e) {
            return 0;
        }
    }

    private static int thrownByRow(WellsNotEven x) {
        try {
            return x.row(-1);
        } catch (NoSuchElementException e) {
            return 0;
        }
    }

    /** All objects and arrays that an object holds, and their fields and elements. */
    private static final class Held {
        long objects = 0;
        long elements = 0;
        private final Set<Object> met = Collections.newSetFromMap(new IdentityHashMap<>());
        private final ArrayDeque<Object> open = new ArrayDeque<>();

        Held(Object root) {
            meet(root);
            while (!open.isEmpty()) {
                Object next = open.pop();
                objects++;
                if (next.getClass().isArray()) {
                    countArray(next);
                } else {
                    countFields(next);
                }
            }
        }

        private void meet(Object part) {
            if (part != null && met.add(part)) {
                open.push(part);
            }
        }

        private void countArray(Object array) {
            int length = Array.getLength(array);
            elements += length;
            if (!array.getClass().getComponentType().isPrimitive()) {
                for (int i = 0; i < length; i++) {
                    meet(Array.get(array, i));
                }
            }
        }

        private void countFields(Object part) {
            for (Field field : part.getClass().getDeclaredFields()) {
                if (!Modifier.isStatic(field.getModifiers())) {
                    elements++;
                    field.setAccessible(true);
                    if (!field.getType().isPrimitive()) {
                        meet(valueOf(field, part));
                    }
                }
            }
        }

        private static Object valueOf(Field field, Object part) {
            try {
                return field.get(part);
            } catch (IllegalAccessException e) {
                throw new IllegalStateException(e);
            }
        }
    }
}
