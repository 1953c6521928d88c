/** Promises 1 to 12: a new object, zones, loads. */
final class BoundsOfZones {
    private BoundsOfZones() {
    }

    @Promise(number = 1, words = "No LOADS, all is cold and off.")
    static void aNewObjectIsEmpty() {
        KilnCourses x = new KilnCourses();
        for (int what = 0; what <= 6; what++) {
            Due.is("count(" + what + ")", x.count(what), 0);
        }
        int[] cold = {20, 0, 0, 0, 0};
        for (int zone = 0; zone < 3; zone++) {
            for (int what = 0; what <= 4; what++) {
                Due.is("zone(" + zone + ", " + what + ")", x.zone(zone, what), cold[what]);
            }
        }
        Due.is("no load 0", x.of(0, 0), Bound.BAD);
        Due.is("no image", x.back(), Bound.STATE);
    }

    @Promise(number = 2, words = "HEAT of a ZONE becomes v (0 .. 1300): what it was.")
    static void heatFrom0To1300() {
        KilnCourses x = new KilnCourses();
        Due.is("to 0", x.heat(1, 0), 20);
        Due.is("to 1300", x.heat(1, 1300), 0);
        Due.is("to 700", x.heat(1, 700), 1300);
        Due.is("it is so", x.zone(1, 0), 700);
        Due.is("not beside it", x.zone(0, 0) + x.zone(2, 0), 40);
        Bound.ends(Bound.BAD, 0, 1300, "heat(0, v)", (y, v) -> y.heat(0, v));
    }

    @Promise(number = 2, words = "BAD.")
    static void heatOfNoZone() {
        Bound.ends(Bound.BAD, 0, 2, "heat(zone, 5)", (x, v) -> x.heat(v, 5));
    }

    @Promise(number = 3, words = "SETTING of a ZONE becomes v: what it was.")
    static void settingFromOffToFull() {
        KilnCourses x = new KilnCourses();
        Due.is("to full", x.setting(0, 3), 0);
        Due.is("to off", x.setting(0, 0), 3);
        Due.is("it is so", x.zone(0, 1), 0);
        x.setting(2, 3);
        Due.is("not beside it", x.zone(0, 1) + x.zone(1, 1), 0);
        Bound.ends(Bound.BAD, 0, 3, "setting(1, v)", (y, v) -> y.setting(1, v));
    }

    @Promise(number = 3, words = "BAD.")
    static void settingOfNoZone() {
        Bound.ends(Bound.BAD, 0, 2, "setting(zone, 1)", (x, v) -> x.setting(v, 1));
    }

    @Promise(number = 4, words = "HEAT (what 0), SETTING (1), MASS (2), what its SETTING GIVES at its HEAT (3), LOADS in it (4; bits).")
    static void zoneWhat() {
        KilnCourses x = Kept.some();
        int[] due = {1179, 3, 3, 83, 0b00001};
        for (int what = 0; what <= 4; what++) {
            Due.is("zone(0, " + what + ")", x.zone(0, what), due[what]);
        }
        Due.is("a spoiled load is in it", x.zone(1, 4), 0b00010);
        Due.is("three loads", x.zone(2, 4), 0b11100);
        for (int i = Kept.LOADS; i < 8; i++) {
            x.load(0, 1, 1);
        }
        Due.is("the eighth, too", x.zone(1, 4), 0b11100010);
        Bound.ends(Bound.BAD, 0, 4, "zone(0, what)", (y, v) -> y.zone(0, v));
    }

    @Promise(number = 4, words = "BAD.")
    static void noSuchZone() {
        Bound.ends(Bound.BAD, 0, 2, "zone(zone, 0)", (x, v) -> x.zone(v, 0));
    }

    @Promise(number = 5, words = "What a SETTING GIVES at a HEAT (0 .. 1300).")
    static void givesAtTheLeastAndTheMostHeat() {
        int[] at0 = {0, 60, 120, 200};
        int[] at1300 = {0, 0, 34, 70};
        KilnCourses x = new KilnCourses();
        for (int s = 0; s < 4; s++) {
            Due.is("gives(" + s + ", 0)", x.gives(s, 0), at0[s]);
            Due.is("gives(" + s + ", 1300)", x.gives(s, 1300), at1300[s]);
        }
        Bound.ends(Bound.BAD, 0, 1300, "gives(1, heat)", (y, v) -> y.gives(1, v));
    }

    @Promise(number = 5, words = "BAD.")
    static void givesOfNoSetting() {
        Bound.ends(Bound.BAD, 0, 3, "gives(setting, 20)", (x, v) -> x.gives(v, 20));
    }

    @Promise(number = 6, words = "A LOAD comes: its number.")
    static void loadsAreNumbered() {
        KilnCourses x = new KilnCourses();
        for (int i = 0; i < 8; i++) {
            Due.is("load", x.load(i % 6, 9 - i, i % 3), i);
            Due.is("kind", x.of(i, 0), i % 6);
            Due.is("size", x.of(i, 1), 9 - i);
            Due.is("zone", x.of(i, 2), i % 3);
        }
    }

    @Promise(number = 6, words = "BAD;")
    static void loadOfNoKindSizeOrZone() {
        Bound.ends(Bound.BAD, 0, 5, "load(kind, 1, 0)", (x, v) -> x.load(v, 1, 0));
        Bound.ends(Bound.BAD, 1, 9, "load(0, size, 0)", (x, v) -> x.load(0, v, 0));
        Bound.ends(Bound.BAD, 0, 2, "load(0, 1, zone)", (x, v) -> x.load(0, 1, v));
    }

    @Promise(number = 6, words = "FULL.")
    static void aNinthLoad() {
        KilnCourses x = Kept.some();
        for (int i = Kept.LOADS; i < 8; i++) {
            Due.is("load", x.load(0, 1, 0), i);
        }
        Due.is("a ninth", x.load(0, 1, 0), Bound.FULL);
        Due.is("a bad ninth", x.load(6, 1, 0), Bound.BAD);
        Due.is("count", x.count(0), 8);
        Due.is("mass", x.zone(0, 2), 3 + 3);
        x.take();
        Due.is("there is room again", x.load(0, 1, 0), 7);
    }

    @Promise(number = 7, words = "KIND (what 0), SIZE (1), ZONE (2), SOAKED (3), STATE (4), RISES from the HEAT of its ZONE (5), FALLS (6), TOP (7), NEED (8), MELTS (9), MASS (10).")
    static void ofWhat() {
        KilnCourses x = Kept.some();
        int[] due = {2, 9, 2, 2, 0, 120, 40, 900, 6, 1200, 18};
        for (int what = 0; what <= 10; what++) {
            Due.is("of(4, " + what + ")", x.of(4, what), due[what]);
        }
        x.heat(2, 199);
        Due.is("a hollow one at 199", x.of(3, 5), 40);
        x.heat(2, 200);
        Due.is("a hollow one at 200", x.of(3, 5), 120);
        Bound.ends(Bound.BAD, 0, 10, "of(0, what)", (y, v) -> y.of(0, v));
    }

    @Promise(number = 7, words = "BAD.")
    static void ofNoLoad() {
        Bound.ends(Bound.BAD, 0, Kept.LOADS - 1, "of(load, 0)", (x, v) -> x.of(v, 0));
        Due.is("of none", new KilnCourses().of(0, 0), Bound.BAD);
    }

    @Promise(number = 8, words = "RISES of a LOAD from a HEAT (0 .. 1300).")
    static void risesFromTheLeastAndTheMostHeat() {
        KilnCourses x = new KilnCourses();
        int[] from0 = {120, 104, 120, 104, 40, 104};
        int[] from1300 = {120, 104, 120, 74, 120, 74};
        for (int kind = 0; kind < 6; kind++) {
            x.load(kind, 2, 0);
            Due.is("kind " + kind + " from 0", x.rises(kind, 0), from0[kind]);
            Due.is("kind " + kind + " from 1300", x.rises(kind, 1300), from1300[kind]);
        }
        Bound.ends(Bound.BAD, 0, 1300, "rises(0, from)", (y, v) -> y.rises(0, v));
    }

    @Promise(number = 8, words = "BAD.")
    static void risesOfNoLoad() {
        Bound.ends(Bound.BAD, 0, Kept.LOADS - 1, "rises(load, 20)", (x, v) -> x.rises(v, 20));
    }

    @Promise(number = 9, words = "A LOAD stands in a ZONE from now on: in which it stood.")
    static void moveToAnotherZoneOrTheSame() {
        KilnCourses x = Kept.some();
        Due.is("to another one", x.move(4, 0), 2);
        Due.is("to the same", x.move(4, 0), 0);
        Due.is("it stands there", x.of(4, 2), 0);
        Due.is("loads in zone 0", x.zone(0, 4), 0b10001);
        Due.is("mass of zone 0", x.zone(0, 2), 3 + 18);
        Due.is("mass of zone 2", x.zone(2, 2), 3);
        Bound.ends(Bound.BAD, 0, 2, "move(0, zone)", (y, v) -> y.move(0, v));
    }

    @Promise(number = 9, words = "BAD.")
    static void moveOfNoLoad() {
        Bound.ends(Bound.BAD, 0, Kept.LOADS - 1, "move(load, 0)", (x, v) -> x.move(v, 0));
    }

    @Promise(number = 10, words = "A LOAD is raw, SOAKED 0: which STATE it was of.")
    static void anewOfEachState() {
        KilnCourses x = Kept.some();
        int[] states = {Way.SLUMPED, Way.CRACKED, Way.DONE, Way.DONE, Way.RAW};
        for (int load = 0; load < Kept.LOADS; load++) {
            Due.is("anew(" + load + ")", x.anew(load), states[load]);
            Due.is("state", x.of(load, 4), Way.RAW);
            Due.is("soaked", x.of(load, 3), 0);
        }
        Due.is("anew again", x.anew(0), Way.RAW);
    }

    @Promise(number = 10, words = "BAD.")
    static void anewOfNoLoad() {
        Bound.ends(Bound.BAD, 0, Kept.LOADS - 1, "anew(load)", (x, v) -> x.anew(v));
    }

    @Promise(number = 11, words = "The latest LOAD is none any more: how many there are.")
    static void takeTheLatest() {
        KilnCourses x = Kept.some();
        Due.is("take", x.take(), 4);
        Due.is("it is none any more", x.of(4, 0), Bound.BAD);
        Due.is("mass without it", x.zone(2, 2), 3);
        Due.is("bits without it", x.zone(2, 4), 0b01100);
        Due.is("the others stay", x.of(3, 0), 4);
        for (int left = 3; left >= 0; left--) {
            Due.is("take", x.take(), left);
        }
        Due.is("done ones", x.count(4), 0);
        Due.is("spoiled ones", x.count(5), 0);
    }

    @Promise(number = 11, words = "STATE: none.")
    static void takeOfNone() {
        KilnCourses x = new KilnCourses();
        Due.is("take of a new one", x.take(), Bound.STATE);
        x.load(0, 1, 0);
        x.take();
        Due.is("take of one that is empty again", x.take(), Bound.STATE);
        Due.is("count", x.count(0), 0);
        Due.is("the next is the first", x.load(0, 1, 0), 0);
    }

    @Promise(number = 12, words = "A LOAD taken for one of KIND k (0 .. 5), or one under that: its SIZE.")
    static void takenForItsKindOrOneAbove() {
        int[][] above = {{0}, {0, 1}, {0, 2}, {0, 1, 3}, {0, 2, 4}, {0, 1, 3, 5}};
        for (int kind = 0; kind < 6; kind++) {
            KilnCourses x = new KilnCourses();
            x.load(kind, 9, 0);
            for (int k : above[kind]) {
                Due.is("kind " + kind + " for " + k, x.taken(0, k), 9);
            }
        }
        Bound.ends(Bound.BAD, 0, 5, "taken(2, k)", (x, v) -> x.taken(2, v));
    }

    @Promise(number = 12, words = "BAD;")
    static void takenOfNoLoad() {
        Bound.ends(Bound.BAD, 0, Kept.LOADS - 1, "taken(load, 0)", (x, v) -> x.taken(v, 0));
    }

    @Promise(number = 12, words = "-13.")
    static void takenForAnotherKind() {
        int[][] others = {{1, 2, 3, 4, 5}, {2, 3, 4, 5}, {1, 3, 4, 5}, {2, 4, 5}, {1, 3, 5}, {2, 4}};
        for (int kind = 0; kind < 6; kind++) {
            KilnCourses x = new KilnCourses();
            x.load(kind, 9, 0);
            for (int k : others[kind]) {
                Due.is("kind " + kind + " for " + k, x.taken(0, k), Bound.OTHER_SORT);
            }
        }
        Bound.refused(Bound.OTHER_SORT, "taken(0, 1)", x -> x.taken(0, 1));
    }
}
