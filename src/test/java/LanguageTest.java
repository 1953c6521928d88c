import java.io.IOException;
import java.lang.reflect.Constructor;
import java.lang.reflect.Field;
import java.lang.reflect.Method;
import java.lang.reflect.Modifier;
import java.nio.file.Files;
import java.nio.file.Path;
import java.util.Arrays;
import java.util.Set;
import java.util.TreeSet;
import java.util.regex.Pattern;

/** The face as the document has it, and words that the rules of LANGUAGE.md leave no place for; Rules measures more. */
public final class LanguageTest {
    private static final String[] FACE = {
        "heat int int", "setting int int", "zone int int", "gives int int", "load int int int", "of int int",
        "rises int int", "move int int", "anew int", "take", "taken int int", "step int", "next int", "may int",
        "weakest int", "until int int", "cool int", "feed int long", "course int", "leg int int int",
        "print int int", "spelled int", "join int int", "clear int", "fire int boolean", "tries int int",
        "plan int int int", "lay int int int", "wary", "careful int int", "tells int int int", "film int int int",
        "drawn int int int", "image", "back", "loads int int int int", "count int", "sheet int int int",
        "put int int int", "copy int int int int int",
    };
    private static final String[] RULED_OUT = {
        "\\bthrow\\b", "\\bthrows\\b", "\\btry\\b", "\\bcatch\\b", "\\bsynchronized\\b", "\\bassert\\b", "->", "::",
        "\\bimport\\b", "\\bpackage\\b", "\\bprotected\\b", "\\bvar\\b", "\\bstatic\\s*\\{", "\\bdouble\\b", "\\bfloat\\b",
        "\\bhashCode\\b", "\\btoString\\b", "Exact\\(", "\\bSystem\\.(?!arraycopy\\()", "\\bRandom\\b", "\\bThread\\b",
    };

    public static void main(String[] args) throws IOException {
        face();
        inside();
        String source = Files.readString(Path.of("src/main/java/KilnCourses.java"));
        Due.holds("all signs are 1 to 127", source.chars().allMatch(c -> c >= 1 && c <= 127));
        String code = withoutTexts(source);
        for (String word : RULED_OUT) {
            Due.holds("the source is without " + word, !Pattern.compile(word).matcher(code).find());
        }
        Due.end();
    }

    private static String withoutTexts(String source) {
        return source
            .replaceAll("(?s)/\\*.*?\\*/", "")
            .replaceAll("//[^\\n]*", "")
            .replaceAll("\"[^\"\\n]*\"", "\"\"")
            .replaceAll("'[^'\\n]'", "' '");
    }

    private static void face() {
        int modifiers = KilnCourses.class.getModifiers();
        Due.holds("public and final", Modifier.isPublic(modifiers) && Modifier.isFinal(modifiers));
        Constructor<?>[] made = KilnCourses.class.getDeclaredConstructors();
        Due.holds("one public constructor of none", made.length == 1 && Modifier.isPublic(made[0].getModifiers()) && made[0].getParameterCount() == 0);
        Set<String> seen = new TreeSet<>();
        for (Method m : KilnCourses.class.getDeclaredMethods()) {
            if (Modifier.isPrivate(m.getModifiers())) {
                continue;
            }
            Due.holds("a method of an object that answers an int: " + m, !Modifier.isStatic(m.getModifiers()) && m.getReturnType() == int.class);
            StringBuilder row = new StringBuilder(m.getName());
            for (Class<?> type : m.getParameterTypes()) {
                row.append(' ').append(type.getName());
            }
            seen.add(row.toString());
        }
        Due.holds("the document's methods and no others", seen.equals(new TreeSet<>(Arrays.asList(FACE))));
        Set<String> constants = new TreeSet<>();
        for (Field f : KilnCourses.class.getDeclaredFields()) {
            if (!Modifier.isPrivate(f.getModifiers())) {
                constants.add(f.getName());
            }
            Due.holds("a static field is final: " + f, !Modifier.isStatic(f.getModifiers()) || Modifier.isFinal(f.getModifiers()));
        }
        Due.holds("the document's constants and no others", constants.equals(new TreeSet<>(Set.of("NONE", "BAD", "STATE", "FULL"))));
        Due.is("NONE", KilnCourses.NONE, -1);
        Due.is("BAD", KilnCourses.BAD, -2);
        Due.is("STATE", KilnCourses.STATE, -3);
        Due.is("FULL", KilnCourses.FULL, -4);
    }

    private static void inside() {
        Set<String> names = new TreeSet<>();
        for (String row : FACE) {
            names.add(row.split(" ")[0]);
        }
        Class<?>[] classes = KilnCourses.class.getDeclaredClasses();
        Due.holds("some twelve classes at most", classes.length <= 12);
        for (Class<?> inner : classes) {
            int modifiers = inner.getModifiers();
            Due.holds("static, not public: " + inner, Modifier.isStatic(modifiers) && !Modifier.isPublic(modifiers));
            Due.holds("some twenty fields at most: " + inner, Arrays.stream(inner.getDeclaredFields()).filter(f -> !Modifier.isStatic(f.getModifiers())).count() <= 20);
            for (Field f : inner.getDeclaredFields()) {
                Due.holds("a static field is final: " + f, !Modifier.isStatic(f.getModifiers()) || Modifier.isFinal(f.getModifiers()));
            }
            for (Method m : inner.getDeclaredMethods()) {
                Due.holds("no name of a public method: " + m, !names.contains(m.getName()));
            }
        }
    }
}
