/** What is refused, and that nothing changes by it; which numbers are refused, and which just aren't. */
final class Bound {
    static final int NONE = -1, BAD = -2, STATE = -3, FULL = -4;
    static final int MISSING = -11, OUTSIDE = -12, OTHER_SORT = -13, SIZE_BELOW_0 = -14;

    private static final String UNTOUCHED = Kept.seen(Kept.some());

    interface Call {
        int on(KilnCourses x);
    }

    interface CallOf {
        int on(KilnCourses x, int v);
    }

    private Bound() {
    }

    static void refused(int why, String call, Call asked) {
        KilnCourses x = Kept.some();
        Due.is(call, asked.on(x), why);
        String seen = Kept.seen(x);
        Due.holds(call + " changes nothing: " + seen + " was" + UNTOUCHED, seen.equals(UNTOUCHED));
    }

    /** Of a number of a call, on Kept.some(): from least to most it isn't refused so; all others are. */
    static void ends(int why, int least, int most, String call, CallOf asked) {
        Due.holds(call + " with " + least + " is not refused so", asked.on(Kept.some(), least) != why);
        Due.holds(call + " with " + most + " is not refused so", asked.on(Kept.some(), most) != why);
        int[] others = {least - 1, most + 1, Integer.MIN_VALUE, Integer.MAX_VALUE};
        for (int v : others) {
            refused(why, call + " with " + v, x -> asked.on(x, v));
        }
    }
}
