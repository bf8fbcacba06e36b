import java.lang.management.ManagementFactory;
import java.lang.reflect.Array;
import java.lang.reflect.Field;
import java.lang.reflect.Modifier;
import java.util.ArrayDeque;
import java.util.Collections;
import java.util.Deque;
import java.util.IdentityHashMap;
import java.util.Set;

/** A new object is small, and no call makes anything: all calls of a run live in one room. */
public final class RoomTest {
    private static int wrong = 0;

    private static void must(boolean good, String what) {
        if (!good) {
            wrong++;
            System.out.println("not kept: " + what);
        }
    }

    /** Objects and arrays that an object has, then its fields and elements in all. */
    private static int[] sizeOf(Object root) throws Exception {
        Set<Object> seen = Collections.newSetFromMap(new IdentityHashMap<>());
        Deque<Object> left = new ArrayDeque<>();
        left.add(root);
        seen.add(root);
        int elements = 0;
        while (!left.isEmpty()) {
            Object o = left.remove();
            if (o.getClass().isArray()) {
                elements += Array.getLength(o);
                for (int i = 0; i < Array.getLength(o) && !o.getClass().getComponentType().isPrimitive(); i++) {
                    if (Array.get(o, i) != null && seen.add(Array.get(o, i))) {
                        left.add(Array.get(o, i));
                    }
                }
                continue;
            }
            for (Field f : o.getClass().getDeclaredFields()) {
                if (Modifier.isStatic(f.getModifiers())) {
                    continue;
                }
                elements++;
                f.setAccessible(true);
                if (!f.getType().isPrimitive() && f.get(o) != null && seen.add(f.get(o))) {
                    left.add(f.get(o));
                }
            }
        }
        return new int[] {seen.size(), elements};
    }

    private static long made() {
        com.sun.management.ThreadMXBean bean = (com.sun.management.ThreadMXBean) ManagementFactory.getThreadMXBean();
        return bean.getThreadAllocatedBytes(Thread.currentThread().getId());
    }

    private static int looks(MeetingSets x) {
        int sum = 0;
        for (int what = -1; what <= 11; what++) {
            sum += x.look(0, what) + x.is(0, what) + x.count(what) + x.fault(what) + x.degree(0, what);
            sum += x.order(0, what) + x.level(0, what) + x.answers(0, what) + x.sum(0, what) + x.shatters(0, what);
            sum += x.set(0, what) + x.lacks(0, what) + x.covers(0, what) + x.apart(0, what) + x.flower(0, what);
            sum += x.has(0, what) + x.shattered(0, what) + x.height(0, what) + x.next(0, what) + x.common(0, what, 1);
            sum += x.steps(0, 1, what) + x.without(0, what, 2) + x.together(0, what, 1, 0) + x.across(0, 1, what);
        }
        sum += x.half(0) + x.moved(0) + x.alike(0, 1) + x.selves(0) + x.cover(0) + x.colours(0, 500);
        sum += x.colour(0, 3, 500, 2) + x.arcs(0, 3) + x.around(7, 100, 3) + x.rounds(7, 5) + x.rank(9);
        sum += x.ranked(3, 4) + x.least(100000, 2) + x.cascade(1000, 5, 2) + x.choose(20, 10) + x.would(0, 1, 2);
        return sum;
    }

    private static int acts(MeetingSets x) {
        int sum = x.feed(0x66616d69, 0x6c792037, 0x3a30312c, 0x33342c35, 0x2c363b20) + x.end(19) + x.told(0);
        sum += x.feed(0x66616d69, 0x6c792037, 0x3a30312c, 0x33342c30, 0x2c303b20) + x.told(1);
        for (int what = 0; what < 10; what++) {
            sum += x.makes(0, what, 1) + x.joint(0, 1, what, 2) + x.takes(0, what, 400, 2) + x.most(1, what, 400);
        }
        sum += x.part(0, 1, 0, 1) + x.part(0, 1, 1, 1) + x.trace(0, 29, 1) + x.row(2, 7, 3, 20) + x.all(1, 7, 2, -1);
        sum += x.adds(0, 77) + x.shift(0, 0, 5) + x.settles(0) + x.cuts(0, 1) + x.tell(0) + x.octet(3) + x.drops(2);
        for (int i = 0; i < 11; i++) {
            sum += x.undo();
        }
        return sum;
    }

    public static void main(String[] args) throws Exception {
        int[] size = sizeOf(new MeetingSets());
        must(size[0] <= 100, "at most 100 objects and arrays, there are " + size[0]);
        must(size[1] <= 4000, "at most 4000 fields and elements, there are " + size[1]);
        MeetingSets warm = new MeetingSets();
        acts(warm);
        looks(warm);
        for (int i = 0; i < 20; i++) {
            made();
        }
        MeetingSets x = new MeetingSets();
        // Asking makes something itself: as much between the first two as between the last two.
        long first = made();
        long before = made();
        int sum = acts(x) + looks(x);
        long after = made();
        long calls = (after - before) - (before - first);
        must(calls <= 0, "no call makes anything, they made " + calls + " bytes");
        System.out.println(size[0] + " objects with " + size[1] + " fields and elements (" + sum + ")");
        if (wrong != 0) {
            System.exit(1);
        }
    }
}
