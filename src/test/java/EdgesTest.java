import java.lang.reflect.InvocationTargetException;
import java.lang.reflect.Method;
import java.lang.reflect.Modifier;
import java.util.Arrays;

/**
 * No call throws: all rows of edges for every call, on an empty keeper, a full one and one whose steps are used up.
 * Answers are asked of the keepers' making alone, for behind its 512th call an object's answers are free.
 */
public final class EdgesTest {
    private static final int[] MANY = {
        Integer.MIN_VALUE, Integer.MIN_VALUE + 1, -14, -2, -1, 0, 1, 2, 3, 4, 5, 6, 7, 8, 9, 10, 12, 13, 30, 31, 38, 39, 40, 41, 60, 61,
        119, 120, 121, 1300, 1301, 65535, Integer.MAX_VALUE - 2, Integer.MAX_VALUE,
    };
    // For calls of four numbers and more.
    private static final int[] FEW = {Integer.MIN_VALUE, -1, 0, 1, 2, 3, 4, 8, 9, 38, 39, 40, 41, Integer.MAX_VALUE - 2, Integer.MAX_VALUE};
    private static final long[] LONGS = {Long.MIN_VALUE, -1, 0, 1, 127, 128, Long.MAX_VALUE, 0x7F7F7F7F7F7F7F7FL, 0x3B776F6C3B776F6CL};
    private static int asked = 0;

    public static void main(String[] args) throws IllegalAccessException {
        for (Method method : KilnCourses.class.getDeclaredMethods()) {
            if (Modifier.isPublic(method.getModifiers())) {
                Object[] arguments = new Object[method.getParameterCount()];
                tryAll(new KilnCourses(), method, arguments, 0);
                tryAll(full(), method, arguments, 0);
                tryAll(usedUp(), method, arguments, 0);
            }
        }
        System.out.println(asked + " calls at the edges");
        Due.holds("calls were made", asked > 1_000_000);
        Due.end();
    }

    private static void tryAll(KilnCourses x, Method method, Object[] arguments, int at) throws IllegalAccessException {
        if (at == arguments.length) {
            ask(x, method, arguments);
            return;
        }
        Class<?> type = method.getParameterTypes()[at];
        if (type == boolean.class) {
            arguments[at] = false;
            tryAll(x, method, arguments, at + 1);
            arguments[at] = true;
            tryAll(x, method, arguments, at + 1);
        } else if (type == long.class) {
            for (long v : LONGS) {
                arguments[at] = v;
                tryAll(x, method, arguments, at + 1);
            }
        } else {
            for (int v : arguments.length > 3 ? FEW : MANY) {
                arguments[at] = v;
                tryAll(x, method, arguments, at + 1);
            }
        }
    }

    private static void ask(KilnCourses x, Method method, Object[] arguments) throws IllegalAccessException {
        asked++;
        try {
            method.invoke(x, arguments);
        } catch (InvocationTargetException e) {
            Due.holds(method.getName() + Arrays.toString(arguments) + " throws " + e.getCause(), false);
        }
    }

    /** All that there can be: loads, legs, bytes, sheets, an image. */
    private static KilnCourses full() {
        KilnCourses x = new KilnCourses();
        for (int i = 0; i < 8; i++) {
            x.load(i % 6, 9, i % 3);
        }
        for (int c = 0; c < 4; c++) {
            Due.is("course", Due.course(x, c, "full/full/mid x9;full/full/mid x9;full/full/mid x9;full/full/mid x9;full/full/mid x9;full/full/mid x9"), 6);
        }
        for (int i = 0; i < 15; i++) {
            x.feed(8, 0x3939393939393939L);
        }
        Due.is("the tape is full", x.count(3), 120);
        x.sheet(0, 0, 40);
        x.sheet(1, 1, 40);
        x.sheet(2, 1, 0);
        x.sheet(3, 0, 12);
        x.image();
        return x;
    }

    private static KilnCourses usedUp() {
        KilnCourses x = full();
        Due.settings(x, 3, 3, 3);
        for (int i = 0; i < 9999 / 60; i++) {
            x.step(60);
        }
        x.step(9999 % 60);
        Due.is("all steps are used up", x.count(2), 9999);
        x.image();
        return x;
    }
}
