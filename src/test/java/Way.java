/** Zone 0 on its way from one heat to another in one step, with a load in it. */
final class Way {
    static final int RAW = 0, DONE = 1, CRACKED = 2, SLUMPED = 3;

    private Way() {
    }

    /** A keeper whose next step takes load 0 of this kind and size just that way. */
    static KilnCourses of(int kind, int size, int from, int to) {
        KilnCourses x = new KilnCourses();
        x.load(kind, size, 0);
        set(x, from, to);
        return x;
    }

    /** Heats and the setting of zone 0 become such that its next step is that way. */
    static void set(KilnCourses x, int from, int to) {
        int weight = 10 + x.zone(0, 2);
        int[] given = {0, Math.max(0, 60 - from / 20), 120 - from / 15, 200 - from / 10};
        for (int s = 0; s < 4; s++) {
            for (int beside = 0; beside <= 1300; beside++) {
                if (from + given[s] * 10 / weight + (beside - from) / 8 - (from - 20) / 40 == to) {
                    Due.heats(x, from, beside, beside);
                    Due.settings(x, s, 0, 0);
                    Due.is("the way from " + from, x.next(0), to);
                    return;
                }
            }
        }
        Due.holds("there is a way from " + from + " to " + to, false);
    }

    static int stateBehind(int kind, int size, int from, int to) {
        KilnCourses x = of(kind, size, from, to);
        x.step(1);
        return x.of(0, 4);
    }
}
