import java.lang.management.ManagementFactory;

/** All calls of a run live in one room: no call makes anything, and an object is small. */
public final class RoomTest {
    private static final com.sun.management.ThreadMXBean BEAN = (com.sun.management.ThreadMXBean) ManagementFactory.getThreadMXBean();

    public static void main(String[] args) {
        calls(new KilnCourses());
        made();
        KilnCourses x = new KilnCourses();
        made();
        long before = made();
        calls(x);
        long byCalls = made() - before;
        before = made();
        x = new KilnCourses();
        long byObject = made() - before;
        System.out.println("bytes made by calls: " + byCalls + ", by an object: " + byObject);
        Due.holds("calls make nothing", byCalls < 2000);
        Due.holds("an object is small", byObject < 20000);
        Due.is("it is used", x.count(0), 0);
        Due.end();
    }

    private static long made() {
        return BEAN.getThreadAllocatedBytes(Thread.currentThread().getId());
    }

    private static void calls(KilnCourses x) {
        for (int i = 0; i < 8; i++) {
            x.load(i % 6, 1 + i, i % 3);
        }
        x.heat(0, 900);
        x.heat(1, 900);
        x.heat(2, 900);
        x.sheet(0, 1, 12);
        for (int i = 0; i < 20; i++) {
            x.feed(3, 'l' | 'o' << 8 | 'w' << 16);
            x.course(0);
            x.plan(4, 6, 1);
            x.lay(1, 4, 6);
            x.careful(30, 6);
            x.drawn(i, 40, 3);
            x.tries(0, 5);
            x.print(0, -1);
            x.spelled(0);
            x.image();
            x.step(60);
            x.fire(0, true);
            x.back();
            x.film(1, 1, 12);
            x.tells(0, 1, 1);
            x.copy(0, 0, 0, 1, 5);
            x.loads(0, 1, 0, 4);
            x.may(1);
            x.until(0, 1300);
            x.cool(20);
            x.join(0, 0);
            x.clear(0);
        }
    }
}
