/** Promises 1 to 12: a new object, zones, loads. */
public final class ZonesLoadsTest {
    // By kinds: falls, top, need and mass at size 1 and at size 9, melts.
    private static final int[] FALLS = {80, 80, 40, 60, 40, 80};
    private static final int[] TOP = {800, 800, 900, 1000, 900, 1000};
    private static final int[] MELTS = {1100, 1100, 1200, 1300, 1200, 1500};
    private static final int[] NEED_1 = {2, 2, 2, 2, 1, 2};
    private static final int[] NEED_9 = {2, 2, 6, 2, 5, 2};
    private static final int[] MASS_1 = {1, 0, 2, 0, 2, 0};
    private static final int[] MASS_9 = {9, 4, 18, 4, 18, 4};
    private static final int[] RISES_1_AT_20 = {120, 112, 120, 112, 40, 112};
    private static final int[] RISES_9_AT_20 = {120, 48, 120, 48, 40, 48};

    public static void main(String[] args) {
        newObject();
        heat();
        setting();
        zone();
        gives();
        load();
        of();
        rises();
        move();
        anew();
        take();
        taken();
        Due.end();
    }

    private static void newObject() {
        KilnCourses x = new KilnCourses();
        for (int what = 0; what <= 6; what++) {
            Due.is("new: count " + what, x.count(what), 0);
        }
        for (int z = 0; z < 3; z++) {
            Due.is("new: heat of " + z, x.zone(z, 0), 20);
            for (int what = 1; what <= 4; what++) {
                Due.is("new: zone " + z + " what " + what, x.zone(z, what), 0);
            }
        }
        for (int c = 0; c < 4; c++) {
            Due.is("new: course " + c, x.clear(c), -3);
            Due.is("new: sheet " + c, x.put(c, 0, 0), -11);
        }
        Due.is("new: back", x.back(), -3);
        Due.is("new: take", x.take(), -3);
    }

    private static void heat() {
        KilnCourses x = new KilnCourses();
        Due.is("heat to 0", x.heat(1, 0), 20);
        Due.is("heat to 1300", x.heat(1, 1300), 0);
        Due.is("heat told", x.zone(1, 0), 1300);
        Due.is("heat beside", x.zone(0, 0), 20);
        Due.is("heat beside", x.zone(2, 0), 20);
        Due.is("heat zone -1", x.heat(-1, 5), -2);
        Due.is("heat zone 3", x.heat(3, 5), -2);
        Due.is("heat -1", x.heat(0, -1), -2);
        Due.is("heat 1301", x.heat(1, 1301), -2);
        Due.is("heat after refusals", x.zone(1, 0), 1300);
        x.load(0, 1, 2);
        x.heat(2, 1300);
        Due.is("heat spoils nothing", x.of(0, 4), 0);
    }

    private static void setting() {
        KilnCourses x = new KilnCourses();
        Due.is("setting full", x.setting(2, 3), 0);
        Due.is("setting low", x.setting(2, 1), 3);
        Due.is("setting told", x.zone(2, 1), 1);
        Due.is("setting beside", x.zone(1, 1), 0);
        Due.is("setting zone 3", x.setting(3, 0), -2);
        Due.is("setting zone -1", x.setting(-1, 0), -2);
        Due.is("setting 4", x.setting(2, 4), -2);
        Due.is("setting -1", x.setting(2, -1), -2);
        Due.is("setting after refusals", x.setting(2, 0), 1);
    }

    private static void zone() {
        KilnCourses x = new KilnCourses();
        x.load(0, 5, 1);
        x.load(2, 3, 1);
        x.load(1, 9, 0);
        x.load(3, 7, 1);
        x.heat(1, 300);
        x.setting(1, 2);
        Due.is("zone heat", x.zone(1, 0), 300);
        Due.is("zone setting", x.zone(1, 1), 2);
        Due.is("zone mass", x.zone(1, 2), 5 + 6 + 3);
        Due.is("zone given", x.zone(1, 3), 100);
        Due.is("zone loads", x.zone(1, 4), 0b1011);
        Due.is("zone loads", x.zone(0, 4), 0b0100);
        Due.is("zone loads", x.zone(2, 4), 0);
        Due.is("zone what -1", x.zone(1, -1), -2);
        Due.is("zone what 5", x.zone(1, 5), -2);
        Due.is("zone 3", x.zone(3, 0), -2);
        Due.is("zone -1", x.zone(-1, 0), -2);
        x.heat(1, 1300);
        x.step(1);
        Due.is("spoiled loads", x.count(5), 0b1111);
        Due.is("mass of spoiled loads counts", x.zone(1, 2), 14);
        Due.is("spoiled loads stand there", x.zone(1, 4), 0b1011);
    }

    private static void gives() {
        KilnCourses x = new KilnCourses();
        int[][] due = {
            {0, 0, 0}, {0, 1300, 0},
            {1, 0, 60}, {1, 19, 60}, {1, 20, 59}, {1, 1199, 1}, {1, 1200, 0}, {1, 1220, 0}, {1, 1300, 0},
            {2, 0, 120}, {2, 14, 120}, {2, 15, 119}, {2, 1300, 34},
            {3, 0, 200}, {3, 9, 200}, {3, 10, 199}, {3, 1300, 70},
            {4, 0, -2}, {-1, 0, -2}, {0, -1, -2}, {3, 1301, -2}, {3, Integer.MIN_VALUE, -2},
        };
        for (int[] row : due) {
            Due.is("gives " + row[0] + " at " + row[1], x.gives(row[0], row[1]), row[2]);
        }
    }

    private static void load() {
        KilnCourses x = new KilnCourses();
        for (int i = 0; i < 8; i++) {
            Due.is("load kind 6", x.load(6, 1, 0), -2);
            Due.is("load", x.load(i % 6, i + 1, i % 3), i);
            Due.is("load count", x.count(0), i + 1);
        }
        Due.is("ninth load", x.load(0, 1, 0), -4);
        Due.is("BAD ahead of FULL: kind", x.load(-1, 1, 0), -2);
        Due.is("BAD ahead of FULL: size", x.load(0, 0, 0), -2);
        Due.is("BAD ahead of FULL: size", x.load(0, 10, 0), -2);
        Due.is("BAD ahead of FULL: zone", x.load(0, 1, 3), -2);
        Due.is("BAD ahead of FULL: zone", x.load(0, 1, -1), -2);
        Due.is("load count", x.count(0), 8);
        Due.is("the latest stands as it came", x.of(7, 0) * 100 + x.of(7, 1) * 10 + x.of(7, 2), 181);
    }

    private static void of() {
        for (int kind = 0; kind < 6; kind++) {
            KilnCourses x = new KilnCourses();
            x.load(kind, 1, 1);
            x.load(kind, 9, 2);
            int[] small = {kind, 1, 1, 0, 0, RISES_1_AT_20[kind], FALLS[kind], TOP[kind], NEED_1[kind], MELTS[kind], MASS_1[kind]};
            int[] big = {kind, 9, 2, 0, 0, RISES_9_AT_20[kind], FALLS[kind], TOP[kind], NEED_9[kind], MELTS[kind], MASS_9[kind]};
            for (int what = 0; what <= 10; what++) {
                Due.is("of kind " + kind + " size 1 what " + what, x.of(0, what), small[what]);
                Due.is("of kind " + kind + " size 9 what " + what, x.of(1, what), big[what]);
            }
            Due.is("of what -1", x.of(0, -1), -2);
            Due.is("of what 11", x.of(0, 11), -2);
            Due.is("of load -1", x.of(-1, 0), -2);
            Due.is("of load 2", x.of(2, 0), -2);
        }
        KilnCourses x = new KilnCourses();
        x.load(3, 2, 1);
        x.heat(1, 600);
        Due.is("of: rises from its zone's heat", x.of(0, 5), 120 - 16 - 30);
    }

    private static void rises() {
        KilnCourses x = new KilnCourses();
        for (int kind = 0; kind < 6; kind++) {
            x.load(kind, 5, 0);
        }
        int[][] due = {
            {0, 0, 120}, {0, 1300, 120}, {1, 0, 80}, {1, 600, 80}, {2, 0, 120}, {2, 1300, 120},
            {3, 0, 80}, {3, 599, 80}, {3, 600, 50}, {3, 1300, 50},
            {4, 0, 40}, {4, 199, 40}, {4, 200, 120}, {4, 1300, 120},
            {5, 599, 80}, {5, 600, 50}, {5, 1300, 50},
            {6, 0, -2}, {-1, 0, -2}, {0, -1, -2}, {0, 1301, -2},
        };
        for (int[] row : due) {
            Due.is("rises of " + row[0] + " from " + row[1], x.rises(row[0], row[1]), row[2]);
        }
    }

    private static void move() {
        KilnCourses x = new KilnCourses();
        x.load(0, 4, 0);
        x.load(5, 1, 0);
        Due.heats(x, 1300, 1300, 1300);
        Due.settings(x, 3, 3, 3);
        x.step(1);
        Due.is("a pot slumps, a lined one soaks", x.of(0, 4) * 10 + x.of(1, 3), 31);
        Due.is("move", x.move(0, 2), 0);
        Due.is("move again", x.move(0, 1), 2);
        Due.is("move leaves the state", x.of(0, 4), 3);
        Due.is("move", x.move(1, 1), 0);
        Due.is("move leaves what is soaked", x.of(1, 3), 1);
        Due.is("mass moves", x.zone(1, 2), 4);
        Due.is("mass moves", x.zone(0, 2), 0);
        Due.is("move to where it is", x.move(0, 1), 1);
        Due.is("move zone 3", x.move(0, 3), -2);
        Due.is("move zone -1", x.move(0, -1), -2);
        Due.is("move load 2", x.move(2, 0), -2);
        Due.is("move load -1", x.move(-1, 0), -2);
        Due.is("move after refusals", x.of(0, 2), 1);
    }

    private static void anew() {
        KilnCourses x = new KilnCourses();
        x.load(0, 1, 0);
        x.load(5, 1, 0);
        Due.heats(x, 1300, 1300, 1300);
        Due.settings(x, 3, 3, 3);
        x.step(2);
        Due.is("anew of a slumped one", x.anew(0), 3);
        Due.is("anew of a done one", x.anew(1), 1);
        Due.is("anew of a raw one", x.anew(1), 0);
        Due.is("anew: raw", x.of(0, 4) + x.of(1, 4), 0);
        Due.is("anew: soaked", x.of(0, 3) + x.of(1, 3), 0);
        Due.is("anew load 2", x.anew(2), -2);
        Due.is("anew load -1", x.anew(-1), -2);
        Due.is("slumps again", x.step(1), 1);
    }

    private static void take() {
        KilnCourses x = new KilnCourses();
        x.load(0, 1, 0);
        x.load(2, 2, 0);
        Due.is("take", x.take(), 1);
        Due.is("taken load is none", x.of(1, 0), -2);
        Due.is("mass without it", x.zone(0, 2), 1);
        Due.is("a new one takes its number", x.load(5, 9, 0), 1);
        Due.is("and is its own", x.of(1, 0) * 10 + x.of(1, 1), 59);
        Due.heats(x, 1300, 1300, 1300);
        Due.settings(x, 3, 3, 3);
        x.step(2);
        Due.is("done and soaked", x.of(1, 4) * 10 + x.of(1, 3), 12);
        Due.is("take", x.take(), 1);
        Due.is("a new one", x.load(5, 9, 0), 1);
        Due.is("comes raw, soaked 0", x.of(1, 4) * 10 + x.of(1, 3), 0);
        Due.is("take", x.take(), 1);
        Due.is("take", x.take(), 0);
        Due.is("take of none", x.take(), -3);
        Due.is("count", x.count(0), 0);
    }

    private static void taken() {
        KilnCourses x = new KilnCourses();
        for (int kind = 0; kind < 6; kind++) {
            x.load(kind, kind + 1, 0);
        }
        boolean[][] under = {
            {true, false, false, false, false, false},
            {true, true, false, false, false, false},
            {true, false, true, false, false, false},
            {true, true, false, true, false, false},
            {true, false, true, false, true, false},
            {true, true, false, true, false, true},
        };
        for (int load = 0; load < 6; load++) {
            for (int k = 0; k < 6; k++) {
                Due.is("taken " + load + " for " + k, x.taken(load, k), under[load][k] ? load + 1 : -13);
            }
        }
        Due.is("taken load 6", x.taken(6, 0), -2);
        Due.is("taken load -1", x.taken(-1, 0), -2);
        Due.is("taken kind 6", x.taken(0, 6), -2);
        Due.is("taken kind -1", x.taken(0, -1), -2);
    }
}
