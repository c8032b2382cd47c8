import java.lang.reflect.Array;
import java.lang.reflect.Field;
import java.lang.reflect.Modifier;
import java.util.IdentityHashMap;
import java.util.Map;

/** The room that an object takes: little when it is made, and nothing more in any call. */
public final class RoomTest {
    private static final int MOST_OBJECTS = 100, MOST_ELEMENTS = 3000;

    public static void main(String[] args) throws Exception {
        GleanersForGaps x = new GleanersForGaps();
        Map<Object, Long> before = new IdentityHashMap<>();
        gather(x, before);
        com.sun.management.ThreadMXBean bean =
            (com.sun.management.ThreadMXBean) java.lang.management.ManagementFactory.getThreadMXBean();
        dearCalls(new GleanersForGaps());
        long self = Thread.currentThread().getId();
        long from = bean.getThreadAllocatedBytes(self);
        dearCalls(x);
        long bytes = bean.getThreadAllocatedBytes(self) - from;
        Map<Object, Long> behind = new IdentityHashMap<>();
        gather(x, behind);
        long elements = behind.values().stream().mapToLong(n -> n).sum();
        System.out.println("RoomTest: " + behind.size() + " objects, " + elements + " fields and elements, "
            + bytes + " bytes more in all calls");
        boolean grew = behind.size() != before.size();
        if (grew || behind.size() > MOST_OBJECTS || elements > MOST_ELEMENTS || bytes > 10000) {
            System.out.println("RoomTest: too much room");
            System.exit(1);
        }
    }

    private static void gather(Object o, Map<Object, Long> seen) throws Exception {
        if (o == null || seen.containsKey(o)) {
            return;
        }
        if (o.getClass().isArray()) {
            seen.put(o, (long) Array.getLength(o));
            for (int i = 0; !o.getClass().getComponentType().isPrimitive() && i < Array.getLength(o); i++) {
                gather(Array.get(o, i), seen);
            }
            return;
        }
        seen.put(o, 0L);
        for (Field f : o.getClass().getDeclaredFields()) {
            if (!Modifier.isStatic(f.getModifiers())) {
                f.setAccessible(true);
                seen.merge(o, 1L, Long::sum);
                if (!f.getType().isPrimitive()) {
                    gather(f.get(o), seen);
                }
            }
        }
    }

    private static void dearCalls(GleanersForGaps x) {
        for (int n = 0; n < 5; n++) {
            String text = "takes (gap+nth*2-(apron<50)) or number;keeps 99;shakes 1+row;";
            for (int i = 0; i < text.length(); i++) {
                x.feed(text.charAt(i));
            }
            x.text();
            x.gleaner(n, n);
        }
        x.force(5);
        for (int row = 0; row < 4; row++) {
            x.lay(row, 24, 0b010101010101010101010101);
        }
        for (int i = 0; i < 10; i++) {
            x.image();
            x.sheet(0, i % 3, 40);
            x.film(0, i % 5, 0);
            for (int what = 0; what < 8; what++) {
                x.tells(0, i % 5, 0, what);
            }
            for (int what = 0; what < 5; what++) {
                x.best(0, what);
            }
            x.first(1, 0, 0);
            x.chance(i, 20, 0, 1, 0);
            x.nights(0, 0, 20, 0);
            x.night();
            x.go(0, 54321);
            x.back();
        }
    }
}
