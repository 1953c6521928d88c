import java.lang.reflect.InvocationTargetException;
import java.lang.reflect.Method;
import java.util.ArrayList;
import java.util.Arrays;
import java.util.Comparator;
import java.util.List;
import java.util.Random;

/** All promises: runs of calls by a seeded lot, each answer against the model's. */
public final class ModelTest {
    private static final int RUNS = 1500;
    // An object is used for 512 calls: a run ends ahead of that, for one turn can make some thirty.
    private static final int CALLS = 480;
    private static final int[] EDGES = {Integer.MIN_VALUE, Integer.MAX_VALUE, -3, -2, -1, 0, 1, 2, 3, 4, 5, 6, 9, 12, 13, 40, 41, 60, 61, 1300, 1301};
    private static final String[] PIECES = {
        "off", "low", "mid", "full", "/", ";", "x", "x2", "3", "9", "0", "12", " ", "\n", "?", "lo", "low/mid/full", " x4", "full;", "low x3;",
        "off/off/full x9", "; ", "X",
    };
    // What is called more often than by an even lot, so that runs get far.
    private static final String[] OFTEN = {"load", "heat", "setting", "step", "fire", "tries", "course", "put", "loads", "tells", "careful", "plan"};

    private final Random lot;
    private final KilnCourses program = new KilnCourses();
    private final Model model = new Model();
    private final List<String> said = new ArrayList<>();
    private final List<Method> methods;

    private ModelTest(long seed, List<Method> methods) {
        lot = new Random(seed);
        this.methods = methods;
    }

    public static void main(String[] args) throws ReflectiveOperationException {
        List<Method> methods = new ArrayList<>();
        for (Method m : KilnCourses.class.getDeclaredMethods()) {
            if (java.lang.reflect.Modifier.isPublic(m.getModifiers())) {
                methods.add(m);
            }
        }
        methods.sort(Comparator.comparing(Method::getName));
        Due.is("methods of the face", methods.size(), 40);
        int[] seen = new int[4];
        for (int run = 0; run < RUNS; run++) {
            if (!new ModelTest(run, methods).runs(run, seen)) {
                break;
            }
        }
        System.out.println("done at the end of runs: " + seen[0] + ", spoiled: " + seen[1] + ", plans: " + seen[2] + ", courses read: " + seen[3]);
        Due.holds("runs come to all that there is", seen[0] > 100 && seen[1] > 100 && seen[2] > 100 && seen[3] > 100);
        Due.end();
    }

    private boolean runs(int run, int[] seen) throws ReflectiveOperationException {
        while (said.size() < CALLS) {
            if (lot.nextInt(12) == 0) {
                if (!feedText(run)) {
                    return false;
                }
            }
            if (lot.nextInt(25) == 0 && !warmUp(run)) {
                return false;
            }
            if (!call(run, pick(), null, seen)) {
                return false;
            }
        }
        seen[0] += Integer.bitCount(model.count(4));
        seen[1] += Integer.bitCount(model.count(5));
        return true;
    }

    private Method pick() {
        if (lot.nextInt(3) == 0) {
            return named(OFTEN[lot.nextInt(OFTEN.length)]);
        }
        return methods.get(lot.nextInt(methods.size()));
    }

    private Method named(String name) {
        return methods.stream().filter(m -> m.getName().equals(name)).findFirst().orElseThrow();
    }

    private boolean feedText(int run) throws ReflectiveOperationException {
        StringBuilder text = new StringBuilder();
        int course = lot.nextInt(4);
        if (lot.nextInt(3) == 0 && model.print(course, -1) > 0) {
            return call(run, named("clear"), new Object[] {(course + 1) % 4}, new int[4])
                && call(run, named("course"), new Object[] {(course + 1) % 4}, new int[4])
                && feedAll(run, printed(course))
                && call(run, named("spelled"), new Object[] {course}, new int[4]);
        }
        boolean sound = lot.nextBoolean();
        int legs = 1 + lot.nextInt(sound ? 6 : 12);
        for (int i = 0; i < legs; i++) {
            if (sound) {
                text.append(i == 0 ? "" : ";").append(soundLeg());
            } else {
                text.append(PIECES[lot.nextInt(PIECES.length)]);
            }
        }
        return feedAll(run, text.toString());
    }

    /** By the model, for the program's calls are counted. */
    private String printed(int course) {
        StringBuilder text = new StringBuilder();
        int size = model.print(course, -1);
        for (int k = 0; k < size; k++) {
            text.append((char) model.print(course, k));
        }
        return text.toString();
    }

    private boolean feedAll(int run, String text) throws ReflectiveOperationException {
        for (int at = 0; at < text.length(); at += 8) {
            String part = text.substring(at, Math.min(text.length(), at + 8));
            if (!call(run, named("feed"), new Object[] {part.length(), Due.packed(part)}, new int[4])) {
                return false;
            }
        }
        return true;
    }

    private String soundLeg() {
        String[] words = {"off", "low", "mid", "full"};
        String leg = words[lot.nextInt(4)];
        if (lot.nextInt(3) == 0) {
            leg += "/" + words[lot.nextInt(4)] + " / " + words[lot.nextInt(4)];
        }
        return lot.nextInt(3) == 0 ? leg : leg + " x" + (1 + lot.nextInt(9));
    }

    /** All zones near a heat at which loads get done, and loads that aren't spoiled. */
    private boolean warmUp(int run) throws ReflectiveOperationException {
        int base = 780 + lot.nextInt(400);
        for (int z = 0; z < 3; z++) {
            if (!call(run, named("heat"), new Object[] {z, Math.min(1300, base + lot.nextInt(60))}, new int[4])) {
                return false;
            }
        }
        for (int load = 0; load < model.count(0); load++) {
            if (!call(run, named("anew"), new Object[] {load}, new int[4])) {
                return false;
            }
        }
        return true;
    }

    private boolean call(int run, Method method, Object[] given, int[] seen) throws ReflectiveOperationException {
        Object[] arguments = given == null ? arguments(method) : given;
        Method twin = Model.class.getDeclaredMethod(method.getName(), method.getParameterTypes());
        String row = method.getName() + Arrays.toString(arguments);
        said.add(row);
        Object due = twin.invoke(model, arguments);
        Object got;
        try {
            got = method.invoke(program, arguments);
        } catch (InvocationTargetException e) {
            got = e.getCause();
        }
        if (method.getName().equals("plan") && (int) due > 0) {
            seen[2]++;
        }
        if (method.getName().equals("course") && (int) due > 0) {
            seen[3]++;
        }
        if (!due.equals(got)) {
            Due.holds("run " + run + ", call " + said.size() + ": " + row + " answered " + got + ", due is " + due, false);
            System.out.println("the calls ahead: " + said.subList(Math.max(0, said.size() - 30), said.size()));
            return false;
        }
        return true;
    }

    private Object[] arguments(Method method) {
        Class<?>[] types = method.getParameterTypes();
        Object[] arguments = new Object[types.length];
        for (int i = 0; i < types.length; i++) {
            if (types[i] == boolean.class) {
                arguments[i] = lot.nextBoolean();
            } else if (types[i] == long.class) {
                arguments[i] = lot.nextInt(4) == 0 ? lot.nextLong() : lot.nextLong() & 0x7F7F7F7F7F7F7F7FL;
            } else {
                arguments[i] = number(method.getName(), i);
            }
        }
        return arguments;
    }

    private int number(String name, int i) {
        int by = lot.nextInt(20);
        if (by == 0) {
            return EDGES[lot.nextInt(EDGES.length)];
        }
        if (by == 1) {
            return lot.nextInt(16) - 3;
        }
        int heat = lot.nextInt(1301);
        int course = lot.nextInt(4);
        int zone = lot.nextInt(3);
        int load = lot.nextInt(Math.max(1, model.count(0)));
        switch (name) {
            case "heat": case "until": return i == 0 ? zone : heat;
            case "setting": return i == 0 ? zone : lot.nextInt(4);
            case "zone": return i == 0 ? zone : lot.nextInt(5);
            case "gives": return i == 0 ? lot.nextInt(4) : heat;
            case "load": return i == 0 ? lot.nextInt(6) : i == 1 ? 1 + lot.nextInt(9) : zone;
            case "of": return i == 0 ? load : lot.nextInt(11);
            case "rises": return i == 0 ? load : heat;
            case "move": return i == 0 ? load : zone;
            case "anew": return load;
            case "taken": return i == 0 ? load : lot.nextInt(6);
            case "step": return 1 + lot.nextInt(lot.nextInt(4) == 0 ? 60 : 3);
            case "next": return lot.nextInt(5);
            case "may": case "weakest": return zone;
            case "cool": return heat;
            case "feed": return 1 + lot.nextInt(8);
            case "leg": return i == 0 ? course : i == 1 ? lot.nextInt(6) : lot.nextInt(4);
            case "print": return i == 0 ? course : lot.nextInt(40) - 1;
            case "tries": return i == 0 ? course : lot.nextInt(9);
            case "plan": return i == 0 ? 1 + lot.nextInt(4) : i == 1 ? 1 + lot.nextInt(6) : lot.nextInt(2);
            case "lay": return i == 0 ? course : i == 1 ? 1 + lot.nextInt(4) : 1 + lot.nextInt(6);
            case "careful": return i == 0 ? lot.nextInt(31) : lot.nextInt(7);
            case "tells": return i == 0 ? course : i == 1 ? zone : lot.nextInt(2);
            case "film": return i == 0 ? course : i == 1 ? zone : lot.nextInt(13);
            case "drawn": return i == 0 ? lot.nextInt() : i == 1 ? lot.nextInt(41) : lot.nextInt(4);
            case "loads": return i == 0 ? course : i == 1 ? lot.nextInt(2) : i == 2 ? lot.nextInt(12) : lot.nextInt(9);
            case "count": return lot.nextInt(7);
            case "sheet": return i == 0 ? course : i == 1 ? lot.nextInt(3) - 1 : lot.nextInt(41);
            case "put": return i == 0 ? course : i == 1 ? lot.nextInt(12) : lot.nextInt(5) == 0 ? lot.nextInt() : lot.nextInt(4);
            case "copy": return i == 0 || i == 2 ? course : lot.nextInt(10);
            default: return course;
        }
    }
}
