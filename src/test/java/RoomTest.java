import com.sun.management.ThreadMXBean;
import java.lang.management.ManagementFactory;
import java.lang.reflect.Array;
import java.lang.reflect.Field;
import java.lang.reflect.Modifier;
import java.util.IdentityHashMap;
import java.util.Map;

/** The one room that all calls of a run share: an object makes its rows at first, and its calls make nothing. */
public final class RoomTest {
    private static final int MOST_OBJECTS = 60, MOST_ELEMENTS = 2500;
    private static final ThreadMXBean THREADS = (ThreadMXBean) ManagementFactory.getThreadMXBean();
    private static long sum;

    public static void main(String[] args) throws IllegalAccessException {
        whatAnObjectTakes();
        whatItsCallsMake();
        Due.end("RoomTest");
    }

    private static void whatAnObjectTakes() throws IllegalAccessException {
        Map<Object, Integer> seen = new IdentityHashMap<>();
        TwoAgree x = new TwoAgree();
        Islands.lived(x);
        look(x, seen);
        int elements = 0;
        for (int size : seen.values()) {
            elements += size;
        }
        Due.holds("few objects and arrays, not " + seen.size(), seen.size() <= MOST_OBJECTS);
        Due.holds("few fields and elements, not " + elements, elements <= MOST_ELEMENTS);
    }

    private static void look(Object one, Map<Object, Integer> seen) throws IllegalAccessException {
        if (one == null || seen.containsKey(one)) {
            return;
        }
        Class<?> type = one.getClass();
        if (type.isArray()) {
            seen.put(one, Array.getLength(one));
            for (int i = 0; !type.getComponentType().isPrimitive() && i < Array.getLength(one); i++) {
                look(Array.get(one, i), seen);
            }
            return;
        }
        int fields = 0;
        seen.put(one, 0);
        for (Field field : type.getDeclaredFields()) {
            if (!Modifier.isStatic(field.getModifiers())) {
                fields++;
                field.setAccessible(true);
                if (!field.getType().isPrimitive()) {
                    look(field.get(one), seen);
                }
            }
        }
        seen.put(one, fields);
    }

    /** A round of all calls is gone through again and again: a byte more a call would show as thousands. */
    private static void whatItsCallsMake() {
        TwoAgree x = new TwoAgree();
        Islands.lived(x);
        long thread = Thread.currentThread().getId();
        for (int i = 0; i < 20; i++) {
            everyCall(x, i);
        }
        long before = THREADS.getThreadAllocatedBytes(thread);
        for (int i = 0; i < 200; i++) {
            everyCall(x, i);
        }
        long made = THREADS.getThreadAllocatedBytes(thread) - before;
        Due.holds("calls make nothing, not " + made + " bytes", made < 2000);
        Due.holds("the calls were not left out", sum != 0);
    }

    private static void everyCall(TwoAgree x, int i) {
        int v = i % 6;
        sum += x.citizen(v) + x.citizens(1, v, 2) + x.mend(0, v, i % 9) + x.of(0, v) + x.feed('t') + x.law();
        sum += x.feed("t+(d*e)%7?k;!c".charAt(i % 14)) + x.says(v) + x.all(v % 2) + x.saying(v);
        sum += x.claims(1, 40, v % 3) + x.happens(1, v) + x.pay(v, v % 2) + x.payBoth(10 * v + (v + 1) % 6, v % 3);
        sum += x.pairs(v % 3) + x.strangers(v) + x.likely(1, v, v % 2) + x.liars(1, v % 2) + x.days(1, v % 3);
        sum += x.judge(11) + x.fits(11, 0, v % 3) + x.byTurns(v, 1 + v % 2, v % 2) + x.drawn(i, 310, v);
        sum += x.claim(v) + x.ends() + x.marry(10 * v + (v + 1) % 6) + x.paid(v, v) + x.led(v % 5);
        sum += x.image() + x.back() + x.undo() + x.redo() + x.body(v) + x.act(v, v % 4, i) + x.trace(v);
        sum += x.keep(5, v) + x.taken(5, v) + x.row(2, v % 5, 20) + x.put(2, v, i) + x.element(2, v);
        sum += x.shift(2, 0, 2, 5, 9) + x.count(v);
    }
}
