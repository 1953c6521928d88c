import java.io.IOException;
import java.nio.file.Files;
import java.nio.file.Path;
import java.util.ArrayList;
import java.util.Comparator;
import java.util.LinkedHashMap;
import java.util.List;
import java.util.Map;
import java.util.Set;
import java.util.TreeSet;
import java.util.concurrent.ExecutionException;
import java.util.concurrent.ExecutorService;
import java.util.concurrent.Executors;
import java.util.concurrent.Future;
import java.util.concurrent.TimeUnit;
import java.util.regex.Matcher;
import java.util.regex.Pattern;
import java.util.stream.Stream;
import javax.tools.ToolProvider;

/**
 * By hand, not by .ci/run: the class is broken in one place after the other, and BoundsTest runs with
 * each. Told are the breaks that no test sees and the tests that fail by no break.
 */
public final class Mutants {
    private static final Path SOURCE = Path.of("src/main/java/KilnCourses.java");
    private static final Pattern TEXTS = Pattern.compile("/\\*.*?\\*/|//[^\\n]*|\"[^\"\\n]*\"|'[^'\\n]'", Pattern.DOTALL);
    private static final Pattern FAILED = Pattern.compile("(?m)^promise (\\d+, \\w+),");
    private static final int SECONDS = 30;
    // What is sought, and what stands in the place of its first group; $ is what stood there.
    private static final String[][] BREAKS = {
        {"(?<![<>=!])(<)(?![<>=])", "<=", ">"}, {"(<=)", "<", ">"}, {"(?<![>-])(>)(?![>=])", ">=", "<"}, {"(?<!>)(>=)", ">", "<"},
        {"(==)", "!="}, {"(!=)", "=="}, {" (\\+) ", "-"}, {" (-) ", "+"}, {" (\\*) ", "+"}, {" (/) ", "*"}, {" (%) ", "*"},
        {"(&&)", "||"}, {"(\\|\\|)", "&&"}, {"(\\+\\+)", "--"}, {"(--)", "++"}, {"(\\|=)", "&="}, {"(\\+=)", "-="}, {"(>>>)", ">>"},
        {"(?<![\\w.])(\\d+)(?![\\w.])", "($ + 1)", "($ - 1)"}, {"(!)(?=[\\w(])", ""}, {"Math\\.(max)", "min"}, {"Math\\.(min)", "max"},
        {"(?m)^ {8,}((?!return|int|case|default|break|continue)[A-Za-z][^\\n{}=]*(?:[|+-]?= [^\\n{}]*)?;)$", ";"},
        {"return ([^\\n;]*[a-z][^\\n;]*);", "$ + 1"}, {"return (true);", "false"}, {"return (false);", "true"},
        {"return ([A-Z][A-Z_0-9]+);", "NONE", "BAD", "STATE", "FULL"},
    };

    private record Break(int at, String was, String is) {
    }

    private Mutants() {
    }

    public static void main(String[] args) throws IOException, InterruptedException, ExecutionException {
        String source = Files.readString(SOURCE);
        ExecutorService workers = Executors.newFixedThreadPool(Runtime.getRuntime().availableProcessors());
        Map<Break, Future<Set<String>>> tried = new LinkedHashMap<>();
        for (Break one : breaks(source)) {
            tried.put(one, workers.submit(() -> failedBy(one, source)));
        }
        workers.shutdown();
        tell(source, tried);
    }

    private static List<Break> breaks(String source) {
        String code = TEXTS.matcher(source).replaceAll(found -> found.group().replaceAll("[^\\n]", "_"));
        List<Break> breaks = new ArrayList<>();
        for (String[] row : BREAKS) {
            Matcher found = Pattern.compile(row[0]).matcher(code);
            while (found.find()) {
                String was = source.substring(found.start(1), found.end(1));
                for (int i = 1; i < row.length; i++) {
                    if (!row[i].equals(was)) {
                        breaks.add(new Break(found.start(1), was, row[i].replace("$", was)));
                    }
                }
            }
        }
        return breaks;
    }

    /** The tests that fail then; null, if it does not compile. */
    private static Set<String> failedBy(Break one, String source) throws IOException, InterruptedException {
        Path place = Files.createTempDirectory("mutant");
        try {
            Path file = place.resolve("KilnCourses.java");
            Files.writeString(file, source.substring(0, one.at) + one.is + source.substring(one.at + one.was.length()));
            Path quiet = place.resolve("javac");
            try (var out = Files.newOutputStream(quiet)) {
                if (ToolProvider.getSystemJavaCompiler().run(null, out, out, "-d", place.toString(), file.toString()) != 0) {
                    return null;
                }
            }
            return failedTests(place);
        } finally {
            try (Stream<Path> all = Files.walk(place)) {
                all.sorted(Comparator.reverseOrder()).forEach(path -> path.toFile().delete());
            }
        }
    }

    private static Set<String> failedTests(Path classes) throws IOException, InterruptedException {
        Path said = classes.resolve("said");
        String path = classes + ":" + System.getProperty("java.class.path");
        Process run = new ProcessBuilder("java", "-XX:TieredStopAtLevel=1", "-cp", path, "BoundsTest")
            .redirectErrorStream(true).redirectOutput(said.toFile()).start();
        Set<String> failed = new TreeSet<>();
        if (!run.waitFor(SECONDS, TimeUnit.SECONDS)) {
            run.destroyForcibly().waitFor();
            failed.add("it does not end");
        } else if (run.exitValue() != 0) {
            failed.add("some");
        }
        Matcher test = FAILED.matcher(Files.readString(said));
        while (test.find()) {
            failed.add(test.group(1));
        }
        return failed;
    }

    private static void tell(String source, Map<Break, Future<Set<String>>> tried) throws InterruptedException, ExecutionException {
        Set<String> failed = new TreeSet<>();
        int compiled = 0;
        int unseen = 0;
        for (Map.Entry<Break, Future<Set<String>>> entry : tried.entrySet()) {
            Set<String> by = entry.getValue().get();
            if (by == null) {
                continue;
            }
            compiled++;
            failed.addAll(by);
            if (by.isEmpty()) {
                unseen++;
                Break one = entry.getKey();
                int line = (int) source.substring(0, one.at).lines().count();
                System.out.println("no test sees: line " + line + ", '" + one.was + "' as '" + one.is + "' in: " + source.lines().toList().get(line - 1).trim());
            }
        }
        for (var test : BoundsTest.tests()) {
            String name = test.getAnnotation(Promise.class).number() + ", " + test.getName();
            if (!failed.contains(name)) {
                System.out.println("no break fails: " + name);
            }
        }
        System.out.println(compiled + " breaks, " + unseen + " that no test sees");
    }
}
