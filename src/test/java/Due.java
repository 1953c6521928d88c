/** Counts and prints the answers that aren't as due. */
final class Due {
    private static int asked = 0;
    private static int wrong = 0;
    private static String heading = "";

    private Due() {
    }

    /** What stands ahead of each wrong answer from now on. */
    static void under(String words) {
        heading = words;
    }

    static int asked() {
        return asked;
    }

    static void is(String call, long got, long want) {
        asked++;
        if (got != want) {
            wrong++;
            System.out.println(heading + call + " answered " + got + ", due is " + want);
        }
    }

    static void holds(String what, boolean so) {
        asked++;
        if (!so) {
            wrong++;
            System.out.println(heading + "it does not hold: " + what);
        }
    }

    /** All bytes of a text come behind the tape, eight at a time. */
    static void feed(KilnCourses x, String text) {
        for (int at = 0; at < text.length(); at += 8) {
            String part = text.substring(at, Math.min(text.length(), at + 8));
            x.feed(part.length(), packed(part));
        }
    }

    static long packed(String part) {
        long bytes = 0;
        for (int i = part.length() - 1; i >= 0; i--) {
            bytes = bytes << 8 | part.charAt(i);
        }
        return bytes;
    }

    static int course(KilnCourses x, int c, String text) {
        feed(x, text);
        return x.course(c);
    }

    static String printed(KilnCourses x, int c) {
        StringBuilder text = new StringBuilder();
        int size = x.print(c, -1);
        for (int k = 0; k < size; k++) {
            text.append((char) x.print(c, k));
        }
        return text.toString();
    }

    static void heats(KilnCourses x, int first, int second, int third) {
        x.heat(0, first);
        x.heat(1, second);
        x.heat(2, third);
    }

    static void settings(KilnCourses x, int first, int second, int third) {
        x.setting(0, first);
        x.setting(1, second);
        x.setting(2, third);
    }

    static void end() {
        System.out.println(wrong == 0 ? asked + " answers are as due" : wrong + " of " + asked + " answers are not as due");
        if (wrong != 0) {
            System.exit(1);
        }
    }
}
