import java.lang.management.ManagementFactory;
import java.lang.reflect.Array;
import java.lang.reflect.Field;
import java.lang.reflect.Modifier;
import java.util.ArrayDeque;
import java.util.Collections;
import java.util.Deque;
import java.util.IdentityHashMap;
import java.util.Set;
import com.sun.management.ThreadMXBean;

/** All calls of a run live in one room: an object's rows are made with it, and no call makes more. */
public final class RoomTest {
    private static final Due DUE = new Due();
    private static final ThreadMXBean BEAN = (ThreadMXBean) ManagementFactory.getThreadMXBean();

    private static long made() {
        return BEAN.getThreadAllocatedBytes(Thread.currentThread().getId());
    }

    /** {objects and arrays, fields and elements} that an object holds. */
    private static int[] held(Object first) throws IllegalAccessException {
        Set<Object> seen = Collections.newSetFromMap(new IdentityHashMap<>());
        Deque<Object> todo = new ArrayDeque<>();
        todo.add(first);
        int parts = 0;
        while (!todo.isEmpty()) {
            Object one = todo.remove();
            if (!seen.add(one)) continue;
            if (one.getClass().isArray()) {
                parts += Array.getLength(one);
                if (one instanceof Object[] many) for (Object o : many) if (o != null) todo.add(o);
                continue;
            }
            for (Field f : one.getClass().getDeclaredFields()) {
                if (Modifier.isStatic(f.getModifiers())) continue;
                parts++;
                f.setAccessible(true);
                if (!f.getType().isPrimitive() && f.get(one) != null) todo.add(f.get(one));
            }
        }
        return new int[] {seen.size(), parts};
    }

    private static int askAll(PlateRunner x) {
        int sum = 0;
        for (int what = -1; what < 30; what++) {
            sum += x.stage(0, what) + x.deed(0, what, 0) + x.state(0, 0, what, 0) + x.keep(0, what) + x.need(0, what);
            sum += x.behind(0, 0, what) + x.log(0, what) + x.fits(0, 0, what) + x.drawn(0, what, 60, 0) + x.load(0, what);
            sum += x.after(0, 0, what) + x.least(0, 0, what) + x.stop(0, 0) + x.fault(0) + x.count(what);
        }
        for (int n = 0; n < 7; n++) sum += x.save(0, n, false) + x.duel(0, n, true) + x.odds(0, 0, 3, n, true);
        return sum + (x.image(0) ? 1 : 0) + (x.again(0) ? 1 : 0);
    }

    public static void main(String[] args) throws IllegalAccessException {
        int[] held = held(new PlateRunner());
        System.out.println("an object holds " + held[0] + " objects and arrays, " + held[1] + " fields and elements");
        // A hundred objects in one run take less than the room's 600,000 and 7.3 million.
        DUE.is("few objects", 100 * held[0] < 60000, true);
        DUE.is("few elements", 100 * held[1] < 5000000, true);
        long before = made();
        PlateRunner x = new PlateRunner();
        long object = made() - before;
        System.out.println("an object takes " + object + " bytes");
        DUE.is("a small object", object < 400000, true);
        for (int i = 0; i < 4; i++) {
            Tape.tell(x, 0, i == 0 ? -1 : 0, i % 2 == 0 ? "plate 0 6 6;plate 0 5 5;plate 0 6 3;plate 1 6 6;" : "plate 0 2 2;");
            Tape.tell(x, 1, i == 0 ? -1 : 0, "run 0;wait;gust 1;run 1;set 0;");
            Tape.tell(x, 2, i == 0 ? -1 : 0, "runs 4;stood 0 3;");
            askAll(x);
        }
        before = made();
        for (int i = 0; i < 20; i++) askAll(x);
        long asked = made() - before;
        System.out.println("asking made " + asked + " bytes");
        DUE.is("asking makes nothing", asked < 4096, true);
        before = made();
        for (int i = 0; i < 200; i++) {
            x.feed(0x77616974, 0x3b776169, 0x743b7761, 0x69743b77, 0x6169743b);
            x.text(1, 0);
        }
        long told = made() - before;
        System.out.println("telling made " + told + " bytes");
        DUE.is("telling makes nothing", told < 4096, true);
        DUE.is("told", x.deed(0, -1, 0), 4);
        DUE.finish();
    }
}
