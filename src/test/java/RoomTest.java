import java.lang.management.ManagementFactory;
import java.lang.reflect.Array;
import java.lang.reflect.Field;
import java.lang.reflect.Modifier;
import java.util.ArrayDeque;
import java.util.Deque;
import java.util.IdentityHashMap;
import java.util.Map;

/**
 * All calls of one run live in one room. No row of 512 calls, the making of objects among them, may
 * need more of it than there is, however the calls are chosen.
 */
public final class RoomTest {
    private static final int OBJECTS = 600_000;
    private static final int ELEMENTS = 7_300_000;
    private static final int CALLS = 512;
    private static int wrong = 0;

    public static void main(String[] args) {
        FilmPrinter x = new FilmPrinter();
        fits("made", x, 1);
        x.match(0, 0);
        fits("made, match", x, 2);
        x = new FilmPrinter();
        x.one(0);
        fits("made, one", x, 2);
        x = new FilmPrinter();
        x.image(0);
        fits("made, image", x, 2);
        x.image(1);
        fits("made, image, image", x, 3);
        x.one(0);
        fits("made, image, image, one", x, 4);
        makesNothing();
        System.out.println(wrong == 0 ? "there is room" : wrong + " times there is no room");
        if (wrong != 0) {
            System.exit(1);
        }
    }

    private static void say(String what) {
        wrong++;
        System.out.println(what);
    }

    /** What these calls leave, as often as a run can make them. */
    private static void fits(String calls, FilmPrinter x, int howMany) {
        int[] kept = kept(x);
        long times = CALLS / howMany;
        if (kept[0] * times > OBJECTS || kept[1] * times > ELEMENTS) {
            say(calls + ": " + kept[0] + " objects, " + kept[1] + " elements, " + times + " times");
        }
    }

    /** Objects and arrays, then their fields and elements. */
    private static int[] kept(FilmPrinter x) {
        int[] sum = new int[2];
        Map<Object, Boolean> met = new IdentityHashMap<>();
        Deque<Object> open = new ArrayDeque<>();
        open.push(x);
        while (!open.isEmpty()) {
            Object o = open.pop();
            if (met.put(o, true) != null) {
                continue;
            }
            sum[0]++;
            if (o.getClass().isArray()) {
                int length = Array.getLength(o);
                sum[1] += length;
                for (int k = 0; k < length && o instanceof Object[] row; k++) {
                    push(open, row[k]);
                }
                continue;
            }
            for (Field f : o.getClass().getDeclaredFields()) {
                if (!Modifier.isStatic(f.getModifiers())) {
                    sum[1]++;
                    push(open, f.getType().isPrimitive() ? null : valueOf(f, o));
                }
            }
        }
        return sum;
    }

    private static void push(Deque<Object> open, Object o) {
        if (o != null) {
            open.push(o);
        }
    }

    private static Object valueOf(Field f, Object o) {
        try {
            f.setAccessible(true);
            return f.get(o);
        } catch (IllegalAccessException e) {
            throw new IllegalStateException(e);
        }
    }

    /** Behind the first calls that need rows of their own, no call makes anything. */
    private static void makesNothing() {
        FilmPrinter x = new FilmPrinter();
        callAll(x);
        if (!(ManagementFactory.getThreadMXBean() instanceof com.sun.management.ThreadMXBean bean)
                || !bean.isThreadAllocatedMemorySupported()) {
            return;
        }
        long before = bean.getCurrentThreadAllocatedBytes();
        for (int n = 0; n < 20; n++) {
            callAll(x);
        }
        long made = bean.getCurrentThreadAllocatedBytes() - before;
        if (made > 4000) {
            say("calls make " + made + " bytes");
        }
    }

    private static void callAll(FilmPrinter x) {
        x.shot(9, 100, 3, 2, 50, 30);
        x.of(0, 6);
        x.terms(3, 40);
        // "title 2;light 30 if " and "kind = 2 or not 1>2 "
        x.feed(0x7469746C, 0x6520323B, 0x6C696768, 0x74203330, 0x20696620);
        x.feed(0x6B696E64, 0x203D2032, 0x206F7220, 0x6E6F7420, 0x313E3220);
        if (x.law() != 2) {
            say("law");
        }
        x.fault();
        x.asks(0, 1, 0);
        x.edition(1, 0);
        x.place(1, 3, 1);
        x.fail(0, 2);
        x.printed(1, 4);
        x.feed(0x64646464, 0x64646464, 0x64646464, 0x64646464, 0x64646464);
        x.end(10);
        x.see();
        x.seen(3);
        x.explain(1, 0);
        x.failed(1, 0);
        x.jump(1, 0);
        x.heard(1, 5);
        x.sound(1, 1);
        for (int copy = 0; copy < 2; copy++) {
            x.feed(0x64016401, 0x67016401, 0x64016401, 0x64016401, 0x64016401);
            x.copy(copy);
            x.match(copy, 0);
            x.matched(copy, 1);
        }
        x.one(0);
        x.from(1);
        x.pair(0, 3, 9);
        x.brought(0, 5);
        x.image(0);
        x.image(1);
        x.clear();
        x.back(1);
        x.count(3);
        x.status();
    }
}
