/** Promises 13 to 18: steps truly and in thought, what may be, how long till. */
final class BoundsOfSteps {
    private BoundsOfSteps() {
    }

    @Promise(number = 13, words = "n STEPS (1 .. 60) truly, SETTINGS as they are")
    static void from1To60Steps() {
        KilnCourses x = new KilnCourses();
        x.setting(1, 1);
        x.step(1);
        Due.is("1 step", x.count(2), 1);
        x.step(60);
        Due.is("60 more", x.count(2), 61);
        Due.is("each burns", x.count(1), 61);
        Due.is("settings stay", x.zone(1, 1), 1);
    }

    @Promise(number = 13, words = "BAD;")
    static void noSuchNumberOfSteps() {
        Bound.ends(Bound.BAD, 1, 60, "step(n)", (x, v) -> x.step(v));
    }

    @Promise(number = 13, words = "LOADS that became SPOILED by them (bits).")
    static void loadsThatBecameSpoiledByAnyOfThem() {
        KilnCourses x = new KilnCourses();
        for (int i = 0; i < 8; i++) {
            x.load(i == 3 ? 5 : 0, 1, i % 3);
        }
        Due.heats(x, 1300, 1300, 1300);
        x.heat(2, 1000);
        Due.settings(x, 3, 3, 2);
        Due.is("zones 0 and 1 at once", x.step(1), 0b11010011);
        // Zone 2 is at 1111 behind one step, and above 1100 for its pots behind two.
        Due.is("zone 2 by the next steps", x.step(5), 0b00100100);
        Due.is("none by more", x.step(60), 0);
        Due.is("the lined one is done", x.count(4), 0b1000);
    }

    @Promise(number = 13, words = "STATE: STEPS would be above 9999.")
    static void notAbove9999Steps() {
        KilnCourses x = new KilnCourses();
        Steps.go(x, 9940);
        x.setting(0, 3);
        Due.is("60 from 9940", x.step(60), Bound.STATE);
        Due.is("none went", x.count(2), 9940);
        Due.is("nothing burnt", x.count(1), 0);
        Due.is("59 from 9940", x.step(59), 0);
        Due.is("9999", x.count(2), 9999);
        Due.is("1 from 9999", x.step(1), Bound.STATE);
        Due.is("BAD is named ahead of STATE", x.step(61), Bound.BAD);
        KilnCourses y = new KilnCourses();
        Steps.go(y, 9939);
        Due.is("60 from 9939", y.step(60), 0);
        Due.is("9999", y.count(2), 9999);
    }

    @Promise(number = 14, words = "Behind one STEP, in thought: HEAT of ZONE 0, 1, 2 (what 0 .. 2)")
    static void nextHeats() {
        KilnCourses x = new KilnCourses();
        Due.heats(x, 100, 500, 900);
        Due.settings(x, 3, 0, 1);
        Due.is("zone 0", x.next(0), 100 + 190 + 50 - 2);
        Due.is("zone 1", x.next(1), 500 - 50 + 50 - 12);
        Due.is("zone 2", x.next(2), 900 + 15 - 50 - 22);
        Due.is("it was a thought", x.zone(0, 0) + x.count(2), 100);
    }

    @Promise(number = 14, words = "LOADS that become SPOILED by it (3; bits), that are done then (4; bits).")
    static void nextSpoiledAndDone() {
        KilnCourses x = new KilnCourses();
        x.load(0, 1, 0);
        x.load(4, 1, 2);
        x.load(5, 1, 2);
        Due.heats(x, 1190, 1100, 1100);
        Due.is("the pot slumps", x.next(3), 0b001);
        Due.is("the hollow one is done, the lined one not yet", x.next(4), 0b010);
        x.step(1);
        Due.is("the pot does so no more", x.next(3), 0);
        Due.is("then the lined one is done, too", x.next(4), 0b110);
        Due.heats(x, 20, 20, 20);
        x.heat(2, 1100);
        Due.is("what was done cracks", x.next(3), 0b110);
        Due.is("and is not done then", x.next(4), 0);
    }

    @Promise(number = 14, words = "BAD.")
    static void nextOfNoSuch() {
        Bound.ends(Bound.BAD, 0, 4, "next(what)", (x, v) -> x.next(v));
    }

    @Promise(number = 15, words = "MAY (bits).")
    static void mayOfEachNumberOfSettings() {
        int[] to = {0, 0, 0, 0};
        int[] due = {0b0000, 0b0001, 0b0011, 0b0111, 0b1111};
        // A thin one of size 1 and mass 0 bears 112; at 100 low gives 55, mid 114, full 190, and 2 are lost.
        int[] beside = {1300, 900, 500, 100};
        for (int i = 0; i < beside.length; i++) {
            KilnCourses x = new KilnCourses();
            x.load(1, 1, 0);
            Due.heats(x, 100, beside[i], beside[i]);
            to[i] = x.may(0);
        }
        Due.is("150 from beside", to[0], due[0]);
        Due.is("100 from beside", to[1], due[1]);
        Due.is("50 from beside", to[2], due[2]);
        Due.is("none from beside: mid rises by just 112", to[3], due[3]);
        Due.is("no load", new KilnCourses().may(0), due[4]);
    }

    @Promise(number = 15, words = "BAD.")
    static void mayOfNoZone() {
        Bound.ends(Bound.BAD, 0, 2, "may(zone)", (x, v) -> x.may(v));
    }

    @Promise(number = 16, words = "WEAKEST; NONE.")
    static void weakestOfNone() {
        KilnCourses x = new KilnCourses();
        for (int zone = 0; zone < 3; zone++) {
            Due.is("no loads", x.weakest(zone), Bound.NONE);
        }
        x = Kept.some();
        Due.is("a slumped one alone", x.weakest(0), Bound.NONE);
        Due.is("a cracked one alone", x.weakest(1), Bound.NONE);
        Due.is("a lined one of size 2 at 1078", x.weakest(2), 2);
        x.anew(1);
        Due.is("raw again", x.weakest(1), 1);
    }

    @Promise(number = 16, words = "BAD.")
    static void weakestOfNoZone() {
        Bound.ends(Bound.BAD, 0, 2, "weakest(zone)", (x, v) -> x.weakest(v));
    }

    @Promise(number = 17, words = "UNTIL; NONE.")
    static void untilNever() {
        KilnCourses x = new KilnCourses();
        Due.is("all off", x.until(0, 21), Bound.NONE);
        x.setting(0, 3);
        Due.is("full: 218 behind 1", x.until(0, 218), 1);
        Due.is("full: more behind 2", x.until(0, 219), 2);
        Due.is("zone 2 hears of it behind 3", x.until(2, 21), 3);
    }

    @Promise(number = 17, words = "BAD: zone, v (0 .. 1300).")
    static void untilOfNoZoneOrHeat() {
        Bound.ends(Bound.BAD, 0, 2, "until(zone, 20)", (x, v) -> x.until(v, 20));
        Bound.ends(Bound.BAD, 0, 1300, "until(1, v)", (x, v) -> x.until(1, v));
    }

    @Promise(number = 18, words = "COOL; NONE.")
    static void coolNever() {
        KilnCourses x = new KilnCourses();
        Due.is("so now", x.cool(20), 0);
        Due.is("it is 20 and stays so", x.cool(19), Bound.NONE);
        Due.heats(x, 0, 0, 0);
        Due.is("0 is not above 0", x.cool(0), 0);
        Due.heats(x, 59, 59, 59);
        Due.is("59 stays so", x.cool(58), Bound.NONE);
        Due.heats(x, 60, 60, 60);
        Due.is("60 does not", x.cool(59), 1);
    }

    @Promise(number = 18, words = "BAD: v (0 .. 1300).")
    static void coolToNoHeat() {
        Bound.ends(Bound.BAD, 0, 1300, "cool(v)", (x, v) -> x.cool(v));
    }
}
