/** Many steps by as few calls as can be. */
final class Steps {
    private Steps() {
    }

    /** The loads that became spoiled by them, or the first refusal. */
    static int go(KilnCourses x, int n) {
        int spoiled = 0;
        for (int left = n; left > 0; left -= 60) {
            int by = x.step(Math.min(60, left));
            if (by < 0) {
                return by;
            }
            spoiled |= by;
        }
        return spoiled;
    }
}
