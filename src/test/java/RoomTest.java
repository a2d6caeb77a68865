import com.sun.management.ThreadMXBean;
import java.lang.management.ManagementFactory;
import java.lang.reflect.Array;
import java.lang.reflect.Field;
import java.lang.reflect.Modifier;
import java.util.IdentityHashMap;
import java.util.Map;

/** The room of a run is small: what an object holds is counted, and no call may take any more of it. */
public final class RoomTest {
    private static final Checks CHECKS = new Checks("RoomTest");
    private static final int MOST_OBJECTS = 200;
    private static final int MOST_ELEMENTS = 2000;

    private RoomTest() {
    }

    public static void main(String[] args) throws IllegalAccessException {
        PostRelief x = new PostRelief();
        Map<Object, Boolean> seen = new IdentityHashMap<>();
        int elements = elementsOf(x, seen);
        System.out.println("an object holds " + seen.size() + " objects and arrays, " + elements + " fields and elements");
        CHECKS.holds("few objects and arrays", seen.size() <= MOST_OBJECTS);
        CHECKS.holds("few fields and elements", elements <= MOST_ELEMENTS);
        callsTakeNoRoom();
        CHECKS.end();
    }

    private static int elementsOf(Object o, Map<Object, Boolean> seen) throws IllegalAccessException {
        if (o == null || seen.put(o, true) != null) {
            return 0;
        }
        int sum = 0;
        if (o.getClass().isArray()) {
            sum += Array.getLength(o);
            for (int i = 0; i < Array.getLength(o) && o instanceof Object[]; i++) {
                sum += elementsOf(Array.get(o, i), seen);
            }
            return sum;
        }
        for (Field f : o.getClass().getDeclaredFields()) {
            if (!Modifier.isStatic(f.getModifiers())) {
                sum++;
                f.setAccessible(true);
                sum += f.getType().isPrimitive() ? 0 : elementsOf(f.get(o), seen);
            }
        }
        return sum;
    }

    private static void callsTakeNoRoom() {
        ThreadMXBean thread = (ThreadMXBean) ManagementFactory.getThreadMXBean();
        PostRelief x = Checks.told("p31 9;p31 9;p31 9;p31 9;p31 9;m60;m60;m60;m60;m60;m60;o1;s1;");
        long id = Thread.currentThread().getId();
        everyCall(x);
        long before = thread.getThreadAllocatedBytes(id);
        for (int again = 0; again < 100; again++) {
            everyCall(x);
        }
        long taken = thread.getThreadAllocatedBytes(id) - before;
        System.out.println("100 times every call took " + taken + " bytes");
        CHECKS.holds("calls take no room", taken < 10000);
        before = thread.getThreadAllocatedBytes(id);
        int[] row = new int[100000];
        CHECKS.holds("the count counts", thread.getThreadAllocatedBytes(id) - before >= 4L * row.length);
    }

    private static long everyCall(PostRelief x) {
        long sum = x.type('m') + x.type('5') + x.depot() + x.clear() + x.post(0, 0) + x.man(0, 2) + x.now(3);
        sum += x.sends(0, 0) + x.sends(1, 1) + x.sends(2, 2) + x.sends(3, 3) + x.sends(4, 4);
        sum += x.hour() + x.relieves(0, 1) + x.undo() + x.calls(4);
        sum += x.inHours(60, 1, 1) + x.round(0) + x.rota(-1) + x.leave() + x.two() + x.unseen(0, 12) + x.odds(5, 0);
        sum += x.creep(24, 0) + x.found(0, 24, 1) + x.fits(0, 0) + x.forget() + x.had(0, 0) + x.fair() + x.cow(5, 5, 0);
        sum += x.rate(3, 0) + x.rate(4, 0) + x.rate(5, 0) + x.keep(0) + x.back(0) + x.count(0) + x.trace();
        return sum;
    }
}
