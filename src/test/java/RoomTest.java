import com.sun.management.ThreadMXBean;
import java.lang.management.ManagementFactory;
import java.lang.reflect.Array;
import java.lang.reflect.Field;
import java.lang.reflect.Modifier;
import java.util.ArrayDeque;
import java.util.IdentityHashMap;

/** The room of a run: what an object is made of, and that calls make nothing but two images. */
public final class RoomTest {
    private static int objects = 0;
    private static long fields = 0;

    private RoomTest() {
    }

    public static void main(String[] args) throws Exception {
        measure(new SmokesApart());
        System.out.println("an object is " + objects + " objects and arrays, " + fields + " fields and elements");
        Check.due("few objects", objects <= 150 ? 1 : 0, 1);
        Check.due("few elements", fields <= 15000 ? 1 : 0, 1);
        // The first round lets the machine load its classes; the second is counted.
        allocated();
        long bytes = allocated();
        System.out.println("all calls, eleven times over: " + bytes + " bytes");
        Check.due("calls make next to nothing", bytes < 8192 ? 1 : 0, 1);
        Check.end();
    }

    private static void measure(Object root) throws Exception {
        IdentityHashMap<Object, Boolean> seen = new IdentityHashMap<>();
        ArrayDeque<Object> open = new ArrayDeque<>();
        open.add(root);
        while (!open.isEmpty()) {
            Object it = open.remove();
            if (seen.put(it, true) != null) continue;
            objects++;
            if (it.getClass().isArray()) {
                fields += Array.getLength(it);
                for (int i = 0; it instanceof Object[] all && i < all.length; i++) if (all[i] != null) open.add(all[i]);
                continue;
            }
            for (Field f : it.getClass().getDeclaredFields()) {
                if (Modifier.isStatic(f.getModifiers())) continue;
                fields++;
                f.setAccessible(true);
                if (!f.getType().isPrimitive() && f.get(it) != null) open.add(f.get(it));
            }
        }
    }

    private static long allocated() {
        ThreadMXBean threads = (ThreadMXBean) ManagementFactory.getThreadMXBean();
        long thread = Thread.currentThread().getId();
        SmokesApart it = Check.town("chimney 5 0 4 4;chimney 6 1 3;chimney 5 1 9 9;wind 0 4 3;fine 7;");
        threads.getThreadAllocatedBytes(thread);
        long before = threads.getThreadAllocatedBytes(thread);
        for (int i = 0; i < 11; i++) everyCall(it);
        return threads.getThreadAllocatedBytes(thread) - before;
    }

    private static long everyCall(SmokesApart it) {
        long sum = it.plan(0) + it.plans() + it.shut() + it.most(9, 1);
        sum += it.light(0, 3) + it.light(1, 4) + it.price(2, 4) + it.cheapest(2) + it.free(2) + it.best(2, 20) + it.worth(2, 20);
        sum += it.smoke(4, 6, 1) + it.puffs(4) + it.puff(0, 0, 4, true) + it.touch(0, 1) + it.touching(0, 1) + it.pair(0);
        sum += it.pays(1) + it.soot(6) + it.blackest() + it.higher(1) + it.thickness() + it.sky();
        sum += it.gusts(7) + it.calm(60) + it.steady(-1) + it.breaks(200) + it.plan(12) + it.shut();
        sum += it.numbers(0, 1, 4) + it.write(0, 0, 5) + it.write(0, 2, 6) + it.sheets(0) + it.sheet(0, 0, 0) + it.sure(0);
        sum += it.judge(0, 1) + it.perform(0) + it.copy(0) + it.count(6) + it.chimney(0, 5) + it.wind(3, false) + it.fault(0);
        sum += it.image(0) + it.image(1) + it.out(0) + it.out(1) + it.restore(0) + it.out(0) + it.out(1);
        sum += it.feed(0x66696e65, 0x20373b20, 0x20202020, 0x20202020, 0x20202020) + it.town(3);
        return sum;
    }
}
