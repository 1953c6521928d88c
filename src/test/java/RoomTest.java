import java.lang.management.ManagementFactory;
import java.lang.reflect.Array;
import java.lang.reflect.Field;
import java.lang.reflect.Modifier;
import java.util.Collections;
import java.util.IdentityHashMap;
import java.util.Set;

/** All calls of a run live in one room: no call makes anything, and an object is small. */
public final class RoomTest {
    private static final com.sun.management.ThreadMXBean BEAN = (com.sun.management.ThreadMXBean) ManagementFactory.getThreadMXBean();

    // What the room of a run holds, and how many keepers a run may then make at least.
    private static final int ROOM_OBJECTS = 600_000, ROOM_ITEMS = 7_300_000, KEEPERS = 3_000;

    public static void main(String[] args) throws IllegalAccessException {
        calls(new KilnCourses());
        made();
        KilnCourses x = new KilnCourses();
        made();
        long before = made();
        calls(x);
        long byCalls = made() - before;
        before = made();
        x = new KilnCourses();
        long byObject = made() - before;
        System.out.println("bytes made by calls: " + byCalls + ", by an object: " + byObject);
        Due.holds("calls make nothing", byCalls < 2000);
        Due.holds("an object is small", byObject < 20000);
        Due.is("it is used", x.count(0), 0);
        Set<Object> all = Collections.newSetFromMap(new IdentityHashMap<>());
        int items = items(x, all);
        System.out.println("a keeper: " + all.size() + " objects and arrays, " + items + " fields and items");
        Due.holds("a run has room for many", KEEPERS <= ROOM_OBJECTS / all.size() && KEEPERS <= ROOM_ITEMS / items);
        Due.end();
    }

    /** Fields and items of a thing and of all that it holds; the things come to all. */
    private static int items(Object thing, Set<Object> all) throws IllegalAccessException {
        if (thing == null || !all.add(thing)) {
            return 0;
        }
        int items = 0;
        if (thing.getClass().isArray()) {
            items = Array.getLength(thing);
            for (int i = 0; i < Array.getLength(thing) && !thing.getClass().getComponentType().isPrimitive(); i++) {
                items += items(Array.get(thing, i), all);
            }
            return items;
        }
        for (Field field : thing.getClass().getDeclaredFields()) {
            if (Modifier.isStatic(field.getModifiers())) {
                continue;
            }
            field.setAccessible(true);
            items += field.getType().isPrimitive() ? 1 : 1 + items(field.get(thing), all);
        }
        return items;
    }

    private static long made() {
        return BEAN.getThreadAllocatedBytes(Thread.currentThread().getId());
    }

    private static void calls(KilnCourses x) {
        for (int i = 0; i < 8; i++) {
            x.load(i % 6, 1 + i, i % 3);
        }
        x.heat(0, 900);
        x.heat(1, 900);
        x.heat(2, 900);
        x.sheet(0, 1, 12);
        for (int i = 0; i < 20; i++) {
            x.feed(3, 'l' | 'o' << 8 | 'w' << 16);
            x.course(0);
            x.plan(4, 6, 1);
            x.lay(1, 4, 6);
            x.careful(30, 6);
            x.drawn(i, 40, 3);
            x.tries(0, 5);
            x.print(0, -1);
            x.spelled(0);
            x.image();
            x.step(60);
            x.fire(0, true);
            x.back();
            x.film(1, 1, 12);
            x.tells(0, 1, 1);
            x.copy(0, 0, 0, 1, 5);
            x.loads(0, 1, 0, 4);
            x.may(1);
            x.until(0, 1300);
            x.cool(20);
            x.join(0, 0);
            x.clear(0);
        }
    }
}
