import java.io.IOException;
import java.lang.reflect.Method;
import java.lang.reflect.Modifier;
import java.nio.file.Files;
import java.nio.file.Path;
import java.util.regex.Matcher;
import java.util.regex.Pattern;

/** README.md: its examples answer as it says, and it names every call. */
public final class ReadmeTest {
    private static final Pattern BLOCK = Pattern.compile("(?s)```java\\n(.*?)```");
    private static final String NEW = "KilnCourses kiln = new KilnCourses();";
    private static final Pattern CALL = Pattern.compile("kiln\\.(\\w+)\\((.*?)\\);\\s+// (-?\\d+): .+");
    private static final Pattern FED = Pattern.compile(".*// \\d+: \"([^\"]*)\".*");

    public static void main(String[] args) throws IOException, ReflectiveOperationException {
        String readme = Files.readString(Path.of("README.md"));
        Matcher block = BLOCK.matcher(readme);
        int blocks = 0;
        while (block.find()) {
            blocks++;
            run(block.group(1));
        }
        Due.holds("there are examples", blocks > 0);
        for (Method method : KilnCourses.class.getDeclaredMethods()) {
            if (Modifier.isPublic(method.getModifiers())) {
                Due.holds("it names " + method.getName(), readme.contains("`" + method.getName() + "`"));
            }
        }
        Due.holds("it says how to run the tests", readme.contains("\n    .ci/run\n"));
        Due.end();
    }

    private static void run(String block) throws ReflectiveOperationException {
        KilnCourses kiln = new KilnCourses();
        Due.holds("an example begins with a new kiln", block.startsWith(NEW + "\n"));
        for (String line : block.substring(block.indexOf('\n') + 1).split("\n")) {
            Matcher call = CALL.matcher(line);
            Due.holds("a call and its answer: " + line, call.matches());
            if (call.matches()) {
                Due.is(line, answer(kiln, call.group(1), call.group(2)), Long.parseLong(call.group(3)));
            }
            Matcher fed = FED.matcher(line);
            if (fed.matches()) {
                Due.holds("these bytes: " + line, line.contains("feed(" + fed.group(1).length() + ", 0x" + Long.toHexString(Due.packed(fed.group(1))) + "L)"));
            }
        }
    }

    private static int answer(KilnCourses kiln, String name, String given) throws ReflectiveOperationException {
        String[] words = given.isEmpty() ? new String[0] : given.split(", ");
        for (Method method : KilnCourses.class.getDeclaredMethods()) {
            Class<?>[] types = method.getParameterTypes();
            if (!method.getName().equals(name) || types.length != words.length) {
                continue;
            }
            Object[] arguments = new Object[types.length];
            for (int i = 0; i < types.length; i++) {
                arguments[i] = argument(types[i], words[i]);
            }
            return (int) method.invoke(kiln, arguments);
        }
        throw new NoSuchMethodException(name + " of " + words.length);
    }

    private static Object argument(Class<?> type, String word) {
        if (type == boolean.class) {
            return Boolean.valueOf(word);
        }
        long number = Long.decode(word.replace("L", ""));
        if (type == long.class) {
            return number;
        }
        return Math.toIntExact(number);
    }
}
