/** Promises 32 to 34: told heats, films, lots. */
final class BoundsOfTold {
    private BoundsOfTold() {
    }

    @Promise(number = 32, words = "TOLD of a ZONE: the first (what 0; NONE), SETTINGS (1).")
    static void theFirstAndTheSettings() {
        KilnCourses x = new KilnCourses();
        x.setting(2, 1);
        Kept.row(x, 0, 1, 79, 138 - 7 - 1);
        Due.is("the second is otherwise", x.tells(0, 2, 0), 1);
        Due.is("by no setting", x.tells(0, 2, 1), 0);
        x.put(0, 1, 79 + 57 - 7 - 1);
        Due.is("all are so", x.tells(0, 2, 0), Bound.NONE);
        Due.is("by low alone", x.tells(0, 2, 1), 0b0010);
        x.setting(2, 0);
        Due.is("the first is otherwise", x.tells(0, 2, 0), 0);
        Due.is("by low still", x.tells(0, 2, 1), 0b0010);
        Kept.row(x, 1, 1, -1);
        Due.is("a number that is no heat", x.tells(1, 0, 0), 0);
        Due.is("a number that is no heat", x.tells(1, 0, 1), 0);
    }

    @Promise(number = 32, words = "BAD: SHEET, zone, what;")
    static void tellsOfNoSuch() {
        Bound.ends(Bound.BAD, 0, 3, "tells(sheet, 0, 0)", (x, v) -> x.tells(v, 0, 0));
        Bound.ends(Bound.BAD, 0, 2, "tells(0, zone, 0)", (x, v) -> x.tells(0, v, 0));
        Bound.ends(Bound.BAD, 0, 1, "tells(0, 0, what)", (x, v) -> x.tells(0, 0, v));
    }

    @Promise(number = 32, words = "-11;")
    static void tellsOfAMissingSheet() {
        Bound.refused(Bound.MISSING, "tells(2, 0, 0)", x -> x.tells(2, 0, 0));
        Bound.refused(Bound.MISSING, "tells(2, 0, 1)", x -> x.tells(2, 0, 1));
        KilnCourses x = Kept.some();
        x.sheet(0, -1, 0);
        Due.is("missing again", x.tells(0, 0, 0), Bound.MISSING);
    }

    @Promise(number = 32, words = "BAD: it tells more than 12.")
    static void itTellsMoreThan12() {
        for (int sort = 0; sort <= 1; sort++) {
            KilnCourses x = new KilnCourses();
            x.sheet(0, sort, 13);
            Due.is("13", x.tells(0, 0, 0), Bound.BAD);
            Due.is("13", x.tells(0, 0, 1), Bound.BAD);
            x.sheet(0, sort, 40);
            Due.is("40", x.tells(0, 0, 0), Bound.BAD);
            x.sheet(0, sort, 12);
            for (int i = 0; i < 12; i++) {
                x.put(0, i, 20);
            }
            Due.is("12", x.tells(0, 0, 0), Bound.NONE);
            Due.is("12", x.tells(0, 0, 1), 0b0001);
            x.put(0, 11, 21);
            Due.is("the twelfth is otherwise", x.tells(0, 0, 0), 11);
        }
    }

    @Promise(number = 33, words = "A SHEET truly becomes HEAT of a ZONE behind 1, .., n STEPS (n 0 .. 12; shorts), in thought, SETTINGS as they are: n.")
    static void from0To12HeatsAreFilmed() {
        for (int n = 0; n <= 12; n++) {
            KilnCourses x = new KilnCourses();
            x.sheet(0, 1, 40);
            x.setting(1, 1);
            Due.is("film", x.film(0, 2, n), n);
            Due.is("n shorts", x.put(0, n, 0), Bound.OUTSIDE);
            Due.is("shorts", x.loads(0, 0, 0, 0), 0);
            Due.is("as they are", x.tells(0, 2, 0), Bound.NONE);
            Due.is("the steps were thought", x.count(2), 0);
        }
        filmedAsBySteps();
    }

    private static void filmedAsBySteps() {
        KilnCourses x = new KilnCourses();
        Due.heats(x, 400, 100, 20);
        x.film(1, 1, 12);
        KilnCourses y = new KilnCourses();
        Due.heats(y, 400, 100, 20);
        x.sheet(0, 0, 12);
        for (int i = 0; i < 12; i++) {
            y.step(1);
            x.put(0, i, y.zone(1, 0));
        }
        Due.is("by steps it is so", x.tells(0, 1, 0), Bound.NONE);
        Due.is("filmed it is so", x.tells(1, 1, 0), Bound.NONE);
    }

    @Promise(number = 33, words = "BAD.")
    static void filmOfNoSuch() {
        Bound.ends(Bound.BAD, 0, 3, "film(sheet, 0, 1)", (x, v) -> x.film(v, 0, 1));
        Bound.ends(Bound.BAD, 0, 2, "film(0, zone, 1)", (x, v) -> x.film(0, v, 1));
        Bound.ends(Bound.BAD, 0, 12, "film(0, 0, n)", (x, v) -> x.film(0, 0, v));
    }

    @Promise(number = 34, words = "DRAWN (n 0 .. 40): FUEL more (what 0), done LOADS (1; bits), SPOILED ones (2; bits)")
    static void from0To40DrawnSteps() {
        int[] steps = {0, 1, 40};
        for (int n : steps) {
            KilnCourses x = drawnTruly(7, n);
            KilnCourses y = drawnTruly(7, 0);
            Due.is("fuel, n " + n, y.drawn(7, n, 0), x.count(1));
            Due.is("done, n " + n, y.drawn(7, n, 1), x.count(4));
            Due.is("spoiled, n " + n, y.drawn(7, n, 2), x.count(5));
        }
        KilnCourses x = Kept.some();
        Due.is("no fuel more than ahead", x.drawn(1, 0, 0), 0);
        Due.is("done ones ahead", x.drawn(1, 0, 1), 0b01100);
        Due.is("spoiled ones ahead", x.drawn(1, 0, 2), 0b00011);
        Bound.ends(Bound.BAD, 0, 40, "drawn(1, n, 0)", (y, v) -> y.drawn(1, v, 0));
    }

    private static KilnCourses drawnTruly(int seed, int n) {
        KilnCourses x = new KilnCourses();
        x.load(4, 1, 1);
        x.load(5, 9, 2);
        x.load(0, 2, 0);
        Due.heats(x, 950, 950, 950);
        Due.settings(x, 2, 2, 2);
        long z = seed;
        for (int i = 0; i < n; i++) {
            z = (z * 1103515245L + 12345L) & 0xFFFFFFFFL;
            x.setting((int) ((z >> 9) % 3), (int) ((z >> 20) % 4));
            x.step(1);
        }
        return x;
    }

    @Promise(number = 34, words = "the ZONE with most HEAT then, of like ones the first (3).")
    static void ofLikeZonesTheFirst() {
        int[][] heats = {{20, 20, 20, 0}, {20, 30, 30, 1}, {20, 20, 30, 2}, {30, 20, 30, 0}, {30, 30, 20, 0}, {20, 30, 20, 1}, {0, 0, 1300, 2}};
        for (int[] row : heats) {
            KilnCourses x = new KilnCourses();
            Due.heats(x, row[0], row[1], row[2]);
            Due.is("the hottest", x.drawn(9, 0, 3), row[3]);
        }
    }

    @Promise(number = 34, words = "BAD.")
    static void drawnOfNoSuch() {
        Bound.ends(Bound.BAD, 0, 3, "drawn(1, 1, what)", (x, v) -> x.drawn(1, 1, v));
        int[] seeds = {0, -1, Integer.MIN_VALUE, Integer.MAX_VALUE};
        for (int seed : seeds) {
            Due.holds("no seed is refused: " + seed, new KilnCourses().drawn(seed, 40, 0) >= 0);
        }
    }
}
