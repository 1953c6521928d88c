import java.io.IOException;
import java.nio.file.Files;
import java.nio.file.Path;
import java.util.List;
import java.util.Set;

/** The class breaks none of the rules of LANGUAGE.md that Rules measures; and Rules sees each of them broken. */
public final class RulesTest {
    // A rule's number, and a member that breaks it.
    private static final String[][] BREAKS = {
        {"2", "class Inner { }"},
        {"2", "private void m() { class Local { } }"},
        {"2", "private static final class A { Runnable r = () -> { }; }"},
        {"2", "private static final class A { Runnable r = System::gc; }"},
        {"3", "private double d = 0;"},
        {"3", "private Object o = \"\";"},
        {"3", "private final String[] texts = {};"},
        {"3", "private final int[][][] deep = new int[1][1][1];"},
        {"3", "private long[] m(float f) { return one; } private final long[] one = {1};"},
        {"4", "private int m(int a) { return Math.addExact(a, a); }"},
        {"4", "private long m() { return System.nanoTime(); }"},
        {"4", "private final java.util.Random lot = new java.util.Random();"},
        {"5", "private static int s = 0;"},
        {"5", "private static final int[] S = new int[3];"},
        {"5", "private static final Object S = \"\";"},
        {"5", "private static final int[] S = {1}; private void m() { S[0] = 2; }"},
        {"5", "private static final int[] S = {1}; private void m() { S[0] += 2; }"},
        {"5", "static { }"},
        {"6", "private void m() { throw new IllegalArgumentException(); }"},
        {"6", "private void m() { try { } finally { } }"},
        {"6", "private void m() { synchronized (this) { } }"},
        {"6", "private void m(int a) { assert a > 0; }"},
        {"6", "private void m() throws java.io.IOException { }"},
        {"6", "private boolean m(String a) { return a == \"x\"; }"},
        {"6", "private static class A { } private static class B extends A { } private B m(A a) { return (B) a; }"},
        {"7", "private int m(int a) { return 7 / a; }"},
        {"7", "private int m(int a) { return 7 % (a + 1); }"},
        {"7", "private int m(int a) { return 7 / 0; }"},
        {"7", "private int m(int a) { int b = 7; b /= a; return b; }"},
        {"7", "private int m(int a) { if (a > 0) { return 1; } else { return 7 / a; } }"},
        {"7", "private String m() { return null; }"},
        {"8", "private void m(int d) { n(d); } private void n(int d) { m(d); }"},
        {"9", "private void m() { for (;;) { } }"},
        {"9", "private void m(int n) { for (int i = 0; i < n; ) { } }"},
        {"9", "private void m(int n) { for (int i = 0; i != n; i++) { } }"},
        {"9", "private void m(int n) { for (int i = 0; i < n; i++) { i = 0; } }"},
        {"9", "private void m(int n) { int i = 0; while (i < n) { } }"},
        {"9", "private void m(int n) { int i = 0; while (n < 3 || i < n) { i++; } }"},
        {"9", "private void m(int n) { int i = 0; do { i++; } while (i < n); }"},
        {"10", "private String m(String a) { return a + 1; }"},
        {"11", "private void m(int a, int b, int c, int d, int e, int f, int g, int h) { }"},
        {"11", "private void m(int a) {" + "\n a++;".repeat(60) + "\n}"},
        {"11", "private int a0" + many(", a", 20) + ";"},
        {"11", "private static class C0 { }" + many(" private static class C", " { }", 12)},
        {"11", "private void m0() { } " + chain(8)},
        {"12", "private int[] m() { return new int[3]; }"},
        {"12", "private static class A { } private A m() { return new A(); }"},
    };
    // What rules leave, close to what they don't.
    private static final String[] FINE = {
        "private static final int[] S = {1}; private int m() { return S[0]; }",
        "private static final int TWO = 2; private int m(int a) { return a / TWO + a % 3; }",
        "private int m(int a) { if (a > 0) { return 7 / a; } return 0; }",
        "private void m(int n) { for (int i = n - 1; i >= 0 && i < 9; i--) { } }",
        "private void m(int n) { int i = 0; while (i < n && i != 5) { i++; } }",
        "private void m(int d) { if (d < 3) { m(d + 1); } }",
        "private final int[][] rows = new int[2][2]; private final Own[] own = new Own[3]; private static class Own { }",
        "private void m(int a, int b, int c, int d, int e, int f, int g) { }",
        "private int a0" + many(", a", 19) + ";",
        "private static class C0 { }" + many(" private static class C", " { }", 10),
        "private void m0() { } " + chain(7),
    };

    public static void main(String[] args) throws IOException {
        Rules rules = Rules.of(Files.readString(Path.of("src/main/java/KilnCourses.java")));
        for (String broken : rules.broken()) {
            Due.holds("the class keeps to rule " + broken, false);
        }
        System.out.println("the deepest calls: " + rules.longestRow());
        Due.holds("calls were found", rules.longestRow().size() > 3);
        Due.holds("one method calls itself, its depth against a limit: " + rules.callingThemselves(), rules.callingThemselves().equals(Set.of("Planner.addLegBehind")));
        for (String[] row : BREAKS) {
            List<String> broken = Rules.of(within(row[1])).broken();
            Due.holds("rule " + row[0] + " is broken by " + row[1] + ": " + broken, broken.stream().anyMatch(b -> b.startsWith(row[0] + ":")));
        }
        for (String member : FINE) {
            List<String> broken = Rules.of(within(member)).broken();
            Due.holds("no rule is broken by " + member + ": " + broken, broken.isEmpty());
        }
        Due.holds("an import", Rules.of("import java.util.List; " + within("")).broken().size() == 1);
        Due.holds("a package", Rules.of("package a; " + within("")).broken().size() == 1);
        Due.end();
    }

    private static String within(String member) {
        return "public final class KilnCourses { " + member + " }";
    }

    private static String many(String ahead, int last) {
        return many(ahead, "", last);
    }

    private static String many(String ahead, String behind, int last) {
        StringBuilder text = new StringBuilder();
        for (int i = 1; i <= last; i++) {
            text.append(ahead).append(i).append(behind);
        }
        return text.toString();
    }

    /** Methods m1 .. of which each calls the one ahead. */
    private static String chain(int last) {
        StringBuilder text = new StringBuilder();
        for (int i = 1; i <= last; i++) {
            text.append("private void m").append(i).append("() { m").append(i - 1).append("(); } ");
        }
        return text.toString();
    }
}
