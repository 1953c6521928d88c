/** Promises 32 to 34: told heats, films, lots. */
public final class ToldTest {
    public static void main(String[] args) {
        tells();
        tellsSettings();
        tellsRefusals();
        film();
        drawn();
        drawnRefusals();
        Due.end();
    }

    private static void tell(KilnCourses x, int sheet, int sort, int[] heats) {
        x.sheet(sheet, sort, heats.length);
        for (int i = 0; i < heats.length; i++) {
            x.put(sheet, i, heats[i]);
        }
    }

    private static void tells() {
        KilnCourses x = new KilnCourses();
        x.setting(0, 3);
        // 20, 218, then 218 + 179 - 24 - 4.
        tell(x, 0, 0, new int[] {218, 369});
        Due.is("all are so", x.tells(0, 0, 0), -1);
        tell(x, 0, 1, new int[] {218, 369});
        Due.is("ints, too", x.tells(0, 0, 0), -1);
        Due.is("another zone: the first", x.tells(0, 1, 0), 0);
        x.put(0, 1, 370);
        Due.is("the second is otherwise", x.tells(0, 0, 0), 1);
        x.put(0, 0, -218);
        Due.is("the first is otherwise", x.tells(0, 0, 0), 0);
        tell(x, 1, 1, new int[] {20, 20 + 24});
        Due.is("beside", x.tells(1, 1, 0), -1);
        tell(x, 2, 1, new int[] {218 + 65536});
        Due.is("an int is the whole of it", x.tells(2, 0, 0), 0);
        tell(x, 2, 0, new int[] {218 + 65536});
        Due.is("a short is its lowest bits", x.tells(2, 0, 0), -1);
        tell(x, 3, 0, new int[0]);
        Due.is("a row that tells none", x.tells(3, 0, 0), -1);
        Due.is("nothing is kept", x.zone(0, 0) + x.count(2), 20);
    }

    private static void tellsSettings() {
        KilnCourses x = new KilnCourses();
        tell(x, 0, 0, new int[] {79});
        Due.is("low alone", x.tells(0, 2, 1), 0b0010);
        tell(x, 0, 0, new int[] {139});
        Due.is("mid alone", x.tells(0, 2, 1), 0b0100);
        tell(x, 0, 0, new int[] {139, 5});
        Due.is("none", x.tells(0, 2, 1), 0);
        tell(x, 0, 0, new int[0]);
        Due.is("an empty row: all four", x.tells(0, 2, 1), 0b1111);
        Due.heats(x, 1300, 1300, 1300);
        tell(x, 0, 0, new int[] {1300});
        Due.is("mid and full", x.tells(0, 1, 1), 0b1100);
        tell(x, 0, 0, new int[] {1300 - 32});
        Due.is("off and low", x.tells(0, 1, 1), 0b0011);
        Due.is("setting stays", x.zone(1, 1), 0);
    }

    private static void tellsRefusals() {
        KilnCourses x = new KilnCourses();
        Due.is("missing", x.tells(0, 0, 0), -11);
        Due.is("sheet 4", x.tells(4, 0, 0), -2);
        Due.is("sheet -1", x.tells(-1, 0, 0), -2);
        Due.is("zone 3", x.tells(0, 3, 0), -2);
        Due.is("zone -1", x.tells(0, -1, 0), -2);
        Due.is("what 2", x.tells(0, 0, 2), -2);
        Due.is("what -1", x.tells(0, 0, -1), -2);
        x.sheet(0, 1, 13);
        Due.is("13", x.tells(0, 0, 0), -2);
        x.sheet(0, 1, 12);
        Due.is("12", x.tells(0, 0, 0), 0);
    }

    private static void film() {
        KilnCourses x = new KilnCourses();
        x.load(2, 4, 1);
        Due.settings(x, 1, 3, 2);
        x.sheet(2, 1, 40);
        Due.is("film", x.film(2, 1, 12), 12);
        Due.is("a row of 12", x.put(2, 12, 0), -12);
        Due.is("it is so", x.tells(2, 1, 0), -1);
        Due.is("nothing is kept", x.zone(1, 0) + x.count(2), 20);
        Due.is("of shorts", x.loads(2, 1, 0, 0), -13);
        Due.is("of shorts", x.loads(2, 0, 0, 0), 0);
        x.step(1);
        Due.is("later it is otherwise", x.tells(2, 1, 0), 0);
        Due.is("film of none", x.film(2, 0, 0), 0);
        Due.is("an empty row", x.put(2, 0, 0), -12);
        Due.is("film 13", x.film(2, 0, 13), -2);
        Due.is("film -1", x.film(2, 0, -1), -2);
        Due.is("film zone 3", x.film(2, 3, 1), -2);
        Due.is("film zone -1", x.film(2, -1, 1), -2);
        Due.is("film sheet 4", x.film(4, 0, 1), -2);
        Due.is("film sheet -1", x.film(-1, 0, 1), -2);
        filmedHeats();
    }

    /** What a film has is seen through loads(): heats that are kinds, sizes and zones. */
    private static void filmedHeats() {
        KilnCourses x = new KilnCourses();
        Due.heats(x, 1, 1, 1);
        Due.is("film", x.film(0, 0, 3), 3);
        Due.is("a thin load of size 1 in zone 1", x.loads(0, 0, 0, 1), 1);
        Due.is("kind", x.of(0, 0), 1);
        Due.is("size", x.of(0, 1), 1);
        Due.is("zone", x.of(0, 2), 1);
    }

    private static void drawn() {
        KilnCourses x = new KilnCourses();
        x.load(5, 3, 2);
        Due.settings(x, 1, 1, 1);
        int[] seeds = {0, 1, -1, 12345, Integer.MIN_VALUE, Integer.MAX_VALUE};
        for (int seed : seeds) {
            for (int n = 0; n <= 40; n += 20) {
                drawnAsByHand(x, seed, n);
            }
        }
        Due.is("nothing is kept", x.count(1) + x.count(2), 0);
    }

    private static void drawnAsByHand(KilnCourses x, int seed, int n) {
        KilnCourses y = new KilnCourses();
        y.load(5, 3, 2);
        Due.settings(y, 1, 1, 1);
        long z = seed;
        for (int i = 0; i < n; i++) {
            z = (z * 1103515245L + 12345L) & 0xFFFFFFFFL;
            y.setting((int) ((z >> 9) % 3), (int) ((z >> 20) % 4));
            y.step(1);
        }
        int hottest = 0;
        for (int zone = 1; zone < 3; zone++) {
            hottest = y.zone(zone, 0) > y.zone(hottest, 0) ? zone : hottest;
        }
        String call = "drawn by " + seed + " n " + n;
        Due.is(call + ": fuel", x.drawn(seed, n, 0), y.count(1));
        Due.is(call + ": done", x.drawn(seed, n, 1), y.count(4));
        Due.is(call + ": spoiled", x.drawn(seed, n, 2), y.count(5));
        Due.is(call + ": hottest", x.drawn(seed, n, 3), hottest);
    }

    private static void drawnRefusals() {
        KilnCourses x = new KilnCourses();
        Due.is("n 41", x.drawn(1, 41, 0), -2);
        Due.is("n -1", x.drawn(1, -1, 0), -2);
        Due.is("what 4", x.drawn(1, 1, 4), -2);
        Due.is("what -1", x.drawn(1, 1, -1), -2);
        Due.is("of like ones the first", x.drawn(1, 0, 3), 0);
        Due.heats(x, 20, 30, 30);
        Due.is("of like ones the first", x.drawn(1, 0, 3), 1);
        x.heat(2, 31);
        Due.is("the hottest", x.drawn(1, 0, 3), 2);
        Due.settings(x, 3, 3, 3);
        x.step(2);
        Due.is("fuel more than before", x.drawn(1, 0, 0), 0);
    }
}
