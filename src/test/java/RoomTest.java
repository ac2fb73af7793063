import java.lang.management.ManagementFactory;
import java.lang.reflect.Array;
import java.lang.reflect.Field;
import java.lang.reflect.Modifier;
import java.util.IdentityHashMap;
import java.util.Map;

/** The room that an object takes, and that none of its calls takes more. */
public final class RoomTest {
    private static final int MOST_OBJECTS = 5000;
    private static final int MOST_ELEMENTS = 50000;
    /** Some slack; one object in each of the calls would be more. */
    private static final long MOST_BYTES = 4096;

    private final Map<Object, Boolean> seen = new IdentityHashMap<>();
    private long elements;

    private void count(Object thing) throws IllegalAccessException {
        if (thing == null || thing instanceof String || seen.put(thing, true) != null) {
            return;
        }
        Class<?> type = thing.getClass();
        if (type.isArray()) {
            elements += Array.getLength(thing);
            for (int i = 0; !type.getComponentType().isPrimitive() && i < Array.getLength(thing); i++) {
                count(Array.get(thing, i));
            }
            return;
        }
        for (Field field : type.getDeclaredFields()) {
            if (!Modifier.isStatic(field.getModifiers())) {
                elements++;
                field.setAccessible(true);
                if (!field.getType().isPrimitive()) {
                    count(field.get(thing));
                }
            }
        }
    }

    private static void calls(UnitProver x, String text) {
        for (int i = 0; i < text.length(); i++) {
            x.feed(text.charAt(i));
        }
    }

    /** Some 300 calls, all that there are but for those that another one does the work of. */
    private static void useAll(UnitProver x) {
        for (int i = 0; i < 6; i++) {
            calls(x, "cm=1/100m");
            x.define();
            calls(x, "low=2k-5/9");
            x.define();
            calls(x, "5m2cm*(3+4.5)/7-m=2m");
            x.prove();
            calls(x, "cm");
            x.find();
            x.claim(0, 5, 100, 1);
            x.claim(5, 0, 1, 100);
            x.rings(i % 4);
            x.claimOf(0, i);
            x.by(5, 0, 0);
            x.ratio(0, 5, 0);
            x.nearest(0, 1, 2);
            x.in(0, 5, 0);
            x.bits(1, 5, i % 2);
            x.parted(0, 5, -1, 1, 0);
            x.track(i % 4, i % 2, 30);
            x.put(i % 4, i, 7 * i);
            x.putBits(i % 4, 29, 77777L * i);
            x.change(i % 4, 0, 5);
            x.added(i % 4);
            x.item(i % 4, i);
            x.cast(i % 4, 29, i % 4);
            x.twin(i % 4, 0);
            x.hang(i % 3, i, 5);
            x.hold(i % 3, i, 0);
            x.shift(i % 3, 2);
            x.image();
            x.unclaim(0);
            x.drop();
            x.undo();
            x.count(i);
        }
    }

    private static long bytesOf(UnitProver x) {
        com.sun.management.ThreadMXBean bean = (com.sun.management.ThreadMXBean) ManagementFactory.getThreadMXBean();
        long id = Thread.currentThread().getId();
        long before = bean.getThreadAllocatedBytes(id);
        useAll(x);
        return bean.getThreadAllocatedBytes(id) - before;
    }

    public static void main(String[] args) throws Exception {
        Checks c = new Checks("RoomTest");
        RoomTest room = new RoomTest();
        UnitProver x = new UnitProver();
        room.count(x);
        System.out.println("RoomTest: " + room.seen.size() + " objects, " + room.elements + " fields and elements");
        c.due("objects of one UnitProver are few", room.seen.size() <= MOST_OBJECTS ? 1 : 0, 1);
        c.due("their fields and elements are few", room.elements <= MOST_ELEMENTS ? 1 : 0, 1);
        bytesOf(new UnitProver());
        long bytes = bytesOf(x);
        System.out.println("RoomTest: its calls took " + bytes + " bytes more");
        c.due("calls take no room", bytes <= MOST_BYTES ? 1 : 0, 1);
        RoomTest then = new RoomTest();
        then.count(x);
        c.due("objects behind all calls", then.seen.size(), room.seen.size());
        c.close();
    }
}
