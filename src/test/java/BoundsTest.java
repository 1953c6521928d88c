import java.io.IOException;
import java.lang.reflect.InvocationTargetException;
import java.lang.reflect.Method;
import java.nio.file.Path;
import java.util.ArrayList;
import java.util.Comparator;
import java.util.List;

/**
 * Each sentence of the document that names a boundary case, by a test of its own: a method
 * with Promise on it. With --rest it prints what no test quotes, too.
 */
public final class BoundsTest {
    private static final Class<?>[] PARTS = {
        TermsOfKilns.class, TermsOfCourses.class, TermsOfThoughts.class, BoundsOfZones.class, BoundsOfSteps.class,
        BoundsOfCourses.class, BoundsOfPlans.class, BoundsOfTold.class, BoundsOfHost.class,
    };

    public static void main(String[] args) throws IOException, IllegalAccessException {
        Doc doc = new Doc(Path.of("../shared/DOC.md"));
        List<Method> tests = tests();
        for (Method test : tests) {
            run(test, doc);
        }
        Due.under("");
        for (int promise = Doc.TERMS; promise <= Doc.PROMISES; promise++) {
            Due.holds("a test names promise " + promise, doc.isQuoted(promise));
        }
        if (args.length > 0 && args[0].equals("--rest")) {
            doc.printRest();
        }
        System.out.println(tests.size() + " tests of sentences");
        Due.end();
    }

    static List<Method> tests() {
        List<Method> tests = new ArrayList<>();
        for (Class<?> part : PARTS) {
            for (Method method : part.getDeclaredMethods()) {
                if (method.isAnnotationPresent(Promise.class)) {
                    tests.add(method);
                }
            }
        }
        tests.sort(Comparator.comparing((Method m) -> m.getAnnotation(Promise.class).number()).thenComparing(Method::getName));
        return tests;
    }

    private static void run(Method test, Doc doc) throws IllegalAccessException {
        Promise promise = test.getAnnotation(Promise.class);
        Due.under("promise " + promise.number() + ", " + test.getName() + ", \"" + promise.words() + "\": ");
        Due.holds("the document has these words there", doc.says(promise.number(), promise.words()));
        int before = Due.asked();
        try {
            test.invoke(null);
        } catch (InvocationTargetException e) {
            Due.holds("it ends without " + e.getCause(), false);
        }
        Due.holds("something was asked", Due.asked() > before);
    }
}
