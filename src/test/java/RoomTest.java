import com.sun.management.ThreadMXBean;
import java.lang.management.ManagementFactory;
import java.lang.reflect.Array;
import java.lang.reflect.Field;
import java.lang.reflect.Modifier;
import java.util.IdentityHashMap;
import java.util.Map;

/** The room: what an object is made of, and that its calls make nothing more. */
public final class RoomTest {
    private static final Check CHECK = new Check("RoomTest");
    private static final Map<Object, Boolean> SEEN = new IdentityHashMap<>();
    private static int elements;

    public static void main(String[] args) throws IllegalAccessException {
        newObjectIsSmall();
        callsMakeNothing();
        CHECK.finish();
    }

    private static void newObjectIsSmall() throws IllegalAccessException {
        visit(new WakeSaver());
        CHECK.yes("objects: " + SEEN.size(), SEEN.size() <= 80);
        CHECK.yes("fields and elements: " + elements, elements <= 10000);
    }

    private static void visit(Object it) throws IllegalAccessException {
        if (it == null || SEEN.put(it, true) != null) {
            return;
        }
        Class<?> type = it.getClass();
        if (type.isArray()) {
            elements += Array.getLength(it);
            for (int k = 0; k < Array.getLength(it) && !type.getComponentType().isPrimitive(); k++) {
                visit(Array.get(it, k));
            }
            return;
        }
        for (Field field : type.getDeclaredFields()) {
            if (!Modifier.isStatic(field.getModifiers())) {
                elements++;
                field.setAccessible(true);
                if (!field.getType().isPrimitive()) {
                    visit(field.get(it));
                }
            }
        }
    }

    private static int useAll(WakeSaver saver, int k) {
        int sum = saver.wakes(k % 6) + saver.wake(k % 6, k) + saver.price(k % 6, k % 7) + saver.proof(k);
        sum += saver.answer(k % 6, k) + saver.call(k, k % 4) + saver.count(k % 9) + saver.kind(k % 3, k % 7);
        sum += saver.would(k % 3, k % 100, k % 4) + saver.enough(k % 3, k % 9) + saver.round(k % 4);
        sum += saver.roundAt(k) + saver.go(1) + saver.ring(k % 3) + saver.hand(k % 9) + saver.now();
        sum += saver.fault(k % 2) + (saver.slacken(k % 3, k % 50) ? 1 : 0) + (saver.rule(k % 3) ? 1 : 0);
        sum += saver.feed(1668047219, 1931501883, 538976288, 538976288, 538976288);
        return sum + (k % 5 == 0 ? saver.text() + saver.fault(0) : saver.end(0));
    }

    private static void callsMakeNothing() {
        WakeSaver saver = new WakeSaver();
        ThreadMXBean threads = (ThreadMXBean) ManagementFactory.getThreadMXBean();
        Check.tell(saver, "class a slack 20;class b of a weight 2;class c slack 3;every a 2 0;every b 9 1;every c 5 2;"
                + "length 199;");
        useAll(saver, 1);
        long id = Thread.currentThread().getId();
        threads.getThreadAllocatedBytes(id);
        long before = threads.getThreadAllocatedBytes(id);
        int sum = 0;
        for (int k = 0; k < 500; k++) {
            sum += useAll(saver, k);
        }
        long made = threads.getThreadAllocatedBytes(id) - before;
        CHECK.yes("bytes made by calls: " + made + " (" + sum + ")", made < 4096);
    }
}
