/** The terms' third part: the weakest, may, until, cool, plans, careful steps, what was told, lots, the image. */
final class TermsOfThoughts {
    private static final int POT = 0, THIN = 1, BRICK = 2, GLAZED = 3, HOLLOW = 4, LINED = 5;
    private static final String[] WORDS = {"off", "low", "mid", "full"};

    private TermsOfThoughts() {
    }

    @Promise(number = 0, words = "WEAKEST of a ZONE: of LOADS in it that aren't SPOILED")
    static void spoiledOnesAreNotTheWeakest() {
        KilnCourses x = new KilnCourses();
        x.load(THIN, 9, 0);
        x.load(LINED, 1, 0);
        Due.is("the thin one", x.weakest(0), 0);
        Due.heats(x, 1300, 1300, 1300);
        x.step(1);
        Due.is("it slumped", x.count(5), 1);
        Due.is("the lined one", x.weakest(0), 1);
        x.step(1);
        Due.is("it is done", x.of(1, 4), 1);
        Due.is("a done one, too", x.weakest(0), 1);
    }

    @Promise(number = 0, words = "that with least RISES from its HEAT")
    static void theWeakestHangsOnTheHeat() {
        KilnCourses x = new KilnCourses();
        x.load(THIN, 9, 1);
        x.load(HOLLOW, 1, 1);
        x.load(GLAZED, 6, 1);
        int[] heats = {199, 200, 599, 600};
        int[] due = {1, 0, 0, 2};
        for (int i = 0; i < heats.length; i++) {
            x.heat(1, heats[i]);
            Due.is("at " + heats[i], x.weakest(1), due[i]);
        }
    }

    @Promise(number = 0, words = "of like ones the first; NONE. MAY of a ZONE")
    static void ofLikeOnesTheFirstIsTheWeakest() {
        KilnCourses x = new KilnCourses();
        Due.is("without loads", x.weakest(2), Bound.NONE);
        x.load(THIN, 1, 1);
        Due.is("without loads there", x.weakest(2), Bound.NONE);
        x.load(BRICK, 1, 2);
        x.load(POT, 9, 2);
        x.load(HOLLOW, 2, 2);
        x.heat(2, 200);
        Due.is("three like ones", x.weakest(2), 1);
        x.load(THIN, 1, 2);
        x.load(GLAZED, 1, 2);
        Due.is("two weaker like ones", x.weakest(2), 4);
    }

    @Promise(number = 0, words = "MAY of a ZONE: SETTINGS (bits 0 .. 3) by which, were it so there now, all else as it is, the next STEP has no TROUBLE.")
    static void mayAsksForTroubleInAllZones() {
        KilnCourses x = new KilnCourses();
        Due.is("no loads: all four", x.may(2), 0b1111);
        x.load(THIN, 9, 0);
        Due.is("it bears 48: low is 42, mid 84", x.may(0), 0b0011);
        Due.is("it is off there", x.may(2), 0b1111);
        x.setting(0, 2);
        Due.is("its own setting now is not asked", x.may(0), 0b0011);
        Due.is("trouble in zone 0, whatever is in zone 2", x.may(2), 0);
        x = new KilnCourses();
        x.load(BRICK, 1, 0);
        // It falls by 22 and 37, less what is given: 0, 12, 50, 91; it bears 40.
        Due.heats(x, 900, 600, 600);
        Due.is("off and low are too little", x.may(0), 0b1100);
    }

    /** Heat of three like zones with mass 36 each and full, behind n steps from 20 on. */
    private static int heatBehind(int n) {
        int h = 20;
        for (int i = 0; i < n; i++) {
            h += (200 - h / 10) * 10 / 46 - (h - 20) / 40;
        }
        return h;
    }

    private static KilnCourses slow() {
        KilnCourses x = new KilnCourses();
        for (int i = 0; i < 6; i++) {
            x.load(BRICK, 9, i % 3);
        }
        Due.settings(x, 3, 3, 3);
        return x;
    }

    @Promise(number = 0, words = "UNTIL: behind how many STEPS (0 .. 60), SETTINGS as they are, HEAT of a ZONE is v or more first; NONE.")
    static void untilLooksAt60StepsAndNoMore() {
        KilnCourses x = slow();
        Due.holds("it rises still", heatBehind(59) < heatBehind(60) && heatBehind(60) < heatBehind(61));
        Due.is("just so hot behind 1", x.until(0, heatBehind(1)), 1);
        Due.is("hotter than that", x.until(0, heatBehind(1) + 1), 2);
        Due.is("just so hot behind 59", x.until(1, heatBehind(59)), 59);
        Due.is("hotter than behind 59", x.until(1, heatBehind(59) + 1), 60);
        Due.is("just so hot behind 60", x.until(2, heatBehind(60)), 60);
        Due.is("hotter than behind 60", x.until(2, heatBehind(60) + 1), Bound.NONE);
        Due.is("just so hot behind 61", x.until(0, heatBehind(61)), Bound.NONE);
        x = new KilnCourses();
        Due.heats(x, 20, 1300, 20);
        Due.is("it was so hot, not at last", x.until(0, 200), 2);
        Due.is("it is never so hot", x.until(1, 1300), 0);
        Due.is("nor beside it", x.until(0, 1300), Bound.NONE);
    }

    /** Heat of three like zones that are off, behind n steps from 1300 on. */
    private static int cooledBehind(int n) {
        int h = 1300;
        for (int i = 0; i < n; i++) {
            h -= (h - 20) / 40;
        }
        return h;
    }

    @Promise(number = 0, words = "COOL: behind how many STEPS (0 .. 60), all SETTINGS off, no HEAT is above v first; NONE.")
    static void coolLooksAt60StepsAndNoMore() {
        KilnCourses x = new KilnCourses();
        Due.heats(x, 1300, 1300, 1300);
        Due.settings(x, 3, 2, 1);
        Due.holds("it falls still", cooledBehind(59) > cooledBehind(60) && cooledBehind(60) > cooledBehind(61));
        Due.is("just so cool behind 1", x.cool(cooledBehind(1)), 1);
        Due.is("cooler than that", x.cool(cooledBehind(1) - 1), 2);
        Due.is("just so cool behind 59", x.cool(cooledBehind(59)), 59);
        Due.is("just so cool behind 60", x.cool(cooledBehind(60)), 60);
        Due.is("cooler than behind 60", x.cool(cooledBehind(60) - 1), Bound.NONE);
        Due.is("just so cool behind 61", x.cool(cooledBehind(61)), Bound.NONE);
        for (int zone = 0; zone < 3; zone++) {
            KilnCourses y = new KilnCourses();
            y.heat(zone, 60);
            Due.is("zone " + zone + " alone is above", y.cool(59), 1);
        }
    }

    @Promise(number = 0, words = "UNTIL, COOL: 0, if it is so now.")
    static void untilAndCoolAre0IfItIsSoNow() {
        KilnCourses x = new KilnCourses();
        Due.heats(x, 300, 500, 700);
        Due.is("until its heat", x.until(1, 500), 0);
        Due.is("until less", x.until(1, 499), 0);
        Due.is("until 0", x.until(1, 0), 0);
        Due.is("cool to the most heat", x.cool(700), 0);
        Due.is("cool to more", x.cool(1300), 0);
        Due.holds("cool to less is later", x.cool(699) > 0);
    }

    private static KilnCourses made(Bound.Call make) {
        KilnCourses x = new KilnCourses();
        make.on(x);
        return x;
    }

    /** The plan by trying each row as a course, on a keeper of its own: fuel (what 0), digits (1), or NONE. */
    private static int planByTries(Bound.Call make, int k, int n, int what) {
        int best = Bound.NONE;
        int least = Integer.MAX_VALUE;
        for (int row = 0; row < 1 << 2 * k; row++) {
            KilnCourses x = made(make);
            StringBuilder text = new StringBuilder();
            int digits = 0;
            for (int i = k - 1; i >= 0; i--) {
                int s = row >> 2 * i & 3;
                digits = digits * 10 + s;
                text.append(i == k - 1 ? "" : ";").append(WORDS[s]).append(" x").append(n);
            }
            Due.course(x, 0, text.toString());
            boolean allDone = x.tries(0, 5) == (1 << x.count(0)) - 1;
            if (allDone && x.tries(0, 1) == Bound.NONE && x.tries(0, 0) < least) {
                least = x.tries(0, 0);
                best = digits;
            }
        }
        return best == Bound.NONE || what == 1 ? best : least;
    }

    private static void planIsAsByTries(String when, int k, int n, Bound.Call make) {
        for (int what = 0; what <= 1; what++) {
            Due.is(when + ": plan(" + k + ", " + n + ", " + what + ")", made(make).plan(k, n, what), planByTries(make, k, n, what));
        }
    }

    @Promise(number = 0, words = "PLAN of k LEGS (1 .. 4) of n STEPS (1 .. 6) each")
    static void plansOfTheLeastAndTheMostLegsAndSteps() {
        int[] kinds = {POT, HOLLOW, LINED};
        for (int kind : kinds) {
            Bound.Call make = x -> {
                x.load(kind, 2, 1);
                Due.heats(x, 950, 960, 940);
                return 0;
            };
            planIsAsByTries("kind " + kind, 1, 1, make);
            planIsAsByTries("kind " + kind, 1, 6, make);
            planIsAsByTries("kind " + kind, 4, 1, make);
            planIsAsByTries("kind " + kind, 4, 6, make);
        }
    }

    @Promise(number = 0, words = "of all rows of k SETTINGS, each for all ZONES")
    static void aPlansSettingIsForAllZones() {
        KilnCourses x = new KilnCourses();
        x.load(POT, 1, 1);
        Due.heats(x, 810, 810, 810);
        x.lay(0, 2, 1);
        for (int zone = 0; zone < 3; zone++) {
            Due.is("low in zone " + zone, x.leg(0, 0, zone) * 10 + x.leg(0, 1, zone), 11);
        }
        Due.is("all three burn", x.plan(2, 1, 0), 2 * 3);
    }

    @Promise(number = 0, words = "by which, fired now, there is no TROUBLE and behind them all LOADS are done")
    static void aPlanSpoilsNothingAndEndsWithAllDone() {
        // A thin one bears low alone, whatever the hollow one would take to be done.
        planIsAsByTries("one that bears little", 3, 1, x -> {
            x.load(HOLLOW, 1, 0);
            x.load(THIN, 9, 2);
            Due.heats(x, 880, 880, 880);
            return 0;
        });
        KilnCourses x = Way.of(LINED, 1, 1000, 1000);
        Due.heats(x, 1000, 1000, 1000);
        Due.is("one step is too short for its need of 2", x.plan(1, 1, 0), Bound.NONE);
        Due.holds("two steps are not", x.plan(1, 2, 0) > 0);
        x.load(POT, 1, 2);
        Due.heats(x, 1060, 1060, 1200);
        Due.is("the other one slumps, whatever is set", x.plan(4, 6, 0), Bound.NONE);
    }

    @Promise(number = 0, words = "that which BURNS least, of like ones the first as a row of numbers")
    static void ofLikeRowsTheFirst() {
        KilnCourses x = new KilnCourses();
        x.load(HOLLOW, 1, 1);
        Due.heats(x, 890, 890, 890);
        // Off, then full does it, too, and is ahead of low, low; off, then mid burns as mid, then off.
        Due.is("fuel", x.plan(2, 1, 0), 9);
        Due.is("off, mid is ahead of mid, off", x.plan(2, 1, 1), 2);
        planIsAsByTries("a hollow one", 2, 1, y -> {
            y.load(HOLLOW, 1, 1);
            Due.heats(y, 890, 890, 890);
            return 0;
        });
    }

    @Promise(number = 0, words = "NONE (also with one SPOILED now).")
    static void noPlanWithOneSpoiledNow() {
        for (int harm = Way.CRACKED; harm <= Way.SLUMPED; harm++) {
            KilnCourses x = new KilnCourses();
            x.load(LINED, 1, 1);
            x.load(POT, 1, 0);
            Way.set(x, harm == Way.CRACKED ? 1000 : 1090, harm == Way.CRACKED ? 919 : 1101);
            x.step(1);
            Due.is("spoiled", x.of(1, 4), harm);
            x.anew(0);
            Due.heats(x, 1100, 1100, 1100);
            Due.is("no plan", x.plan(2, 1, 0), Bound.NONE);
            Due.is("no plan", x.plan(2, 1, 1), Bound.NONE);
            x.take();
            Due.is("without it", x.plan(2, 1, 0), 0);
        }
    }

    @Promise(number = 0, words = "As DIGITS: the first the highest (0 3 3 1: 331).")
    static void digitsOfARow() {
        KilnCourses x = new KilnCourses();
        x.load(POT, 1, 1);
        Due.heats(x, 810, 810, 810);
        Due.is("low, low", x.plan(2, 1, 1), 11);
        Due.is("low, low, off, off", x.plan(4, 1, 1), 1100);
        x = new KilnCourses();
        x.load(HOLLOW, 1, 1);
        Due.heats(x, 890, 890, 890);
        Due.is("off, mid", x.plan(2, 1, 1), 2);
    }

    @Promise(number = 0, words = "A PLAN without LOADS is all off")
    static void aPlanWithoutLoadsIsAllOff() {
        KilnCourses x = new KilnCourses();
        Due.settings(x, 3, 3, 3);
        Due.is("fuel", x.plan(4, 6, 0), 0);
        Due.is("digits", x.plan(4, 6, 1), 0);
        Due.is("lay", x.lay(1, 1, 1), 0);
        Due.is("off", x.leg(1, 0, 0) + x.leg(1, 0, 1) + x.leg(1, 0, 2), 0);
    }

    @Promise(number = 0, words = "LOADS that are done ahead count as done.")
    static void oneThatIsDoneAheadCountsAsDone() {
        KilnCourses x = new KilnCourses();
        x.load(HOLLOW, 1, 1);
        Due.heats(x, 1000, 1000, 1000);
        x.step(1);
        Due.is("done", x.count(4), 1);
        Due.heats(x, 20, 20, 20);
        Due.is("fuel", x.plan(1, 1, 0), 0);
        x.load(HOLLOW, 1, 2);
        Due.is("but another one isn't", x.plan(1, 1, 0), Bound.NONE);
    }

    /** The careful code by trying all 64, each on a keeper of its own. */
    private static int carefulByTries(Bound.Call make) {
        int best = Bound.NONE;
        int most = -1;
        int least = 0;
        int[] burns = {0, 1, 3, 6};
        for (int code = 0; code < 64; code++) {
            KilnCourses x = made(make);
            Due.settings(x, code / 16, code / 4 % 4, code % 4);
            int heat = x.next(0) + x.next(1) + x.next(2);
            int burnt = burns[code / 16] + burns[code / 4 % 4] + burns[code % 4];
            if (x.next(3) == 0 && (heat > most || heat == most && burnt < least)) {
                best = code;
                most = heat;
                least = burnt;
            }
        }
        return best;
    }

    private static void waryIsAsByTries(String when, Bound.Call make) {
        Due.is(when + ": wary", made(make).wary(), carefulByTries(make));
    }

    @Promise(number = 0, words = "CAREFUL SETTINGS: their CODE is 16 times that of ZONE 0 and 4 times that of ZONE 1 and that of ZONE 2")
    static void theCodeOfSettings() {
        int[][] rows = {{0, 0, 0, 0}, {3, 0, 0, 48}, {0, 3, 0, 12}, {0, 0, 3, 3}, {1, 2, 3, 27}, {3, 3, 3, 63}};
        KilnCourses x = new KilnCourses();
        for (int[] row : rows) {
            Due.settings(x, row[0], row[1], row[2]);
            Due.is("code", x.careful(0, 6), row[3]);
        }
    }

    @Promise(number = 0, words = "of those (of all 64) by which the next STEP has no TROUBLE those behind which HEATS, together, are most")
    static void carefulSettingsHaveNoTroubleAndMostHeat() {
        for (int zone = 0; zone < 3; zone++) {
            int where = zone;
            waryIsAsByTries("a thin one in zone " + zone, x -> x.load(THIN, 9, where));
            waryIsAsByTries("a hollow one in zone " + zone, x -> x.load(HOLLOW, 9, where));
            waryIsAsByTries("a brick that cools in zone " + zone, x -> {
                x.load(BRICK, 1, where);
                Due.heats(x, 700, 700, 700);
                return x.heat(where, 1000);
            });
        }
        KilnCourses x = new KilnCourses();
        x.load(THIN, 9, 1);
        Due.is("full, low, full", x.wary(), 48 + 4 + 3);
    }

    @Promise(number = 0, words = "of like ones those that BURN least, of these the least CODE; NONE.")
    static void ofLikeCarefulSettingsThoseThatBurnLeast() {
        KilnCourses x = new KilnCourses();
        Due.heats(x, 1300, 1300, 1300);
        Due.is("mid is as hot as full", x.wary(), 32 + 8 + 2);
        waryIsAsByTries("all at 1300", y -> y.heat(0, 1300) + y.heat(1, 1300) + y.heat(2, 1300));
        KilnCourses heavy = new KilnCourses();
        for (int i = 0; i < 8; i++) {
            heavy.load(BRICK, 9, 2);
        }
        Due.heats(heavy, 1190, 1190, 1190);
        // Low gives 1 at 1190, times 10 by 154: nothing more than off.
        heavy.setting(2, 1);
        int low = heavy.next(2);
        heavy.setting(2, 0);
        Due.is("low is as off", heavy.next(2), low);
        waryIsAsByTries("a heavy zone", y -> {
            for (int i = 0; i < 8; i++) {
                y.load(BRICK, 9, 2);
            }
            return y.heat(0, 1190) + y.heat(1, 1190) + y.heat(2, 1190);
        });
        x.load(POT, 1, 1);
        Due.is("one slumps by all 64", x.wary(), Bound.NONE);
    }

    @Promise(number = 0, words = "A CAREFUL STEP: SETTINGS become these (all off, if there are none), a STEP goes.")
    static void aCarefulStepWithoutCarefulSettingsIsAllOff() {
        KilnCourses x = new KilnCourses();
        x.load(POT, 1, 0);
        Due.heats(x, 1300, 1300, 1300);
        Due.settings(x, 3, 3, 3);
        Due.is("none", x.wary(), Bound.NONE);
        Due.is("code then", x.careful(1, 6), 0);
        Due.is("fuel", x.careful(1, 0), 0);
        Due.is("a step goes", x.careful(1, 3), 1300 - 32);
        Due.is("it slumps", x.careful(1, 2), 1);
        Due.is("then there are some again", x.careful(2, 6), 63);
    }

    @Promise(number = 0, words = "A CAREFUL STEP: SETTINGS become these")
    static void aCarefulStepHasASettingForEachZone() {
        int[] codes = {16 + 12 + 3, 48 + 4 + 3, 48 + 12 + 1};
        for (int zone = 0; zone < 3; zone++) {
            KilnCourses x = new KilnCourses();
            x.load(THIN, 9, zone);
            Due.is("low for the thin one in zone " + zone, x.careful(1, 6), codes[zone]);
            Due.is("fuel", x.careful(1, 0), 13);
            Due.is("heat there", x.careful(1, 3 + zone), 20 + 590 / 14);
            Due.is("heat elsewhere", x.careful(1, 3 + (zone + 1) % 3), 20 + 198);
        }
    }

    @Promise(number = 0, words = "careful() with n 0 tells what is now.")
    static void careful0TellsWhatIsNow() {
        KilnCourses x = Kept.some();
        int[] due = {0, x.count(4), x.count(5), x.zone(0, 0), x.zone(1, 0), x.zone(2, 0), 16 * 3 + 4 * 2 + 3};
        for (int what = 0; what <= 6; what++) {
            Due.is("careful(0, " + what + ")", x.careful(0, what), due[what]);
        }
    }

    @Promise(number = 0, words = "TOLD: a SHEET tells HEAT of a ZONE behind 1, 2, .. STEPS (12 at most), SETTINGS as they are: the first that is otherwise (from 0)")
    static void theFirstOf12ThatIsOtherwise() {
        for (int wrong = 0; wrong < 12; wrong++) {
            KilnCourses x = new KilnCourses();
            x.setting(1, 3);
            x.film(0, 1, 12);
            Due.is("all are so", x.tells(0, 1, 0), Bound.NONE);
            x.put(0, wrong, 0);
            x.put(0, 11, 0);
            Due.is("item " + wrong + " is otherwise", x.tells(0, 1, 0), wrong);
        }
    }

    @Promise(number = 0, words = "NONE (also of a row that tells none)")
    static void aRowThatTellsNone() {
        KilnCourses x = new KilnCourses();
        x.sheet(0, 0, 0);
        x.sheet(1, 1, 0);
        Due.is("no shorts", x.tells(0, 0, 0), Bound.NONE);
        Due.is("no ints", x.tells(1, 2, 0), Bound.NONE);
    }

    @Promise(number = 0, words = "SETTINGS of that ZONE (bits 0 .. 3) by which, all else as it is, all are so.")
    static void settingsByWhichAllAreSo() {
        KilnCourses x = new KilnCourses();
        Due.settings(x, 3, 1, 3);
        for (int s = 0; s < 4; s++) {
            x.setting(1, s);
            x.film(0, 1, 3);
            x.setting(1, 3 - s);
            Due.is("setting " + s + " alone", x.tells(0, 1, 1), 1 << s);
            x.put(0, 2, 0);
            Due.is("the last one is otherwise", x.tells(0, 1, 1), 0);
        }
        Due.heats(x, 1300, 1300, 1300);
        x.setting(1, 3);
        x.film(0, 1, 1);
        Due.is("mid and full", x.tells(0, 1, 1), 0b1100);
        x.setting(1, 0);
        x.film(0, 1, 1);
        Due.is("off and low", x.tells(0, 1, 1), 0b0011);
    }

    @Promise(number = 0, words = "tells() of an empty ROW: NONE, all four SETTINGS.")
    static void anEmptyRowIsToldByAllFour() {
        KilnCourses x = new KilnCourses();
        x.film(0, 1, 0);
        Due.is("the first", x.tells(0, 1, 0), Bound.NONE);
        Due.is("settings", x.tells(0, 1, 1), 0b1111);
    }

    @Promise(number = 0, words = "DRAWN by a SEED, n STEPS in thought: ahead of each z becomes z * 1103515245 + 12345 (an int; SEED at first): ZONE (z >>> 9) % 3 has SETTING (z >>> 20) % 4; then the STEP.")
    static void lotsWrapAroundAsAnInt() {
        int[] seeds = {0, 1, -1, 2, Integer.MAX_VALUE, Integer.MIN_VALUE, 1103515245, 777};
        for (int seed : seeds) {
            for (int n = 1; n <= 4; n++) {
                KilnCourses x = new KilnCourses();
                long z = seed & 0xFFFFFFFFL;
                for (int i = 0; i < n; i++) {
                    z = (z * 1103515245L + 12345L) % (1L << 32);
                    x.setting((int) (z / 512 % 3), (int) (z / 1048576 % 4));
                    x.step(1);
                }
                Due.is("fuel by seed " + seed + ", n " + n, new KilnCourses().drawn(seed, n, 0), x.count(1));
                int hottest = 0;
                for (int zone = 1; zone < 3; zone++) {
                    hottest = x.zone(zone, 0) > x.zone(hottest, 0) ? zone : hottest;
                }
                Due.is("hottest by seed " + seed + ", n " + n, new KilnCourses().drawn(seed, n, 3), hottest);
            }
        }
    }

    @Promise(number = 0, words = "AN IMAGE keeps HEATS, SETTINGS, LOADS with all that is theirs, FUEL, STEPS, COURSES.")
    static void theImageKeepsAllOfThese() {
        KilnCourses x = Kept.some();
        x.image();
        for (int load = 0; load < Kept.LOADS; load++) {
            x.take();
        }
        for (int load = 0; load < 8; load++) {
            x.load(3, 5, 1);
        }
        Due.heats(x, 1, 2, 3);
        Due.settings(x, 0, 0, 1);
        x.step(3);
        x.clear(0);
        x.join(2, 2);
        Due.is("back", x.back(), Kept.LOADS);
        int[][] zones = {{1179, 3, 3, 83, 0b00001}, {1051, 2, 4, 50, 0b00010}, {1078, 3, 1 + 2 + 18, 93, 0b11100}};
        for (int zone = 0; zone < 3; zone++) {
            for (int what = 0; what <= 4; what++) {
                Due.is("zone(" + zone + ", " + what + ")", x.zone(zone, what), zones[zone][what]);
            }
        }
        int[][] loads = {
            {0, 3, 0, 0, 3, 120, 80, 800, 2, 1100, 3}, {1, 9, 1, 0, 2, 48, 80, 800, 2, 1100, 4}, {5, 2, 2, 2, 1, 74, 80, 1000, 2, 1500, 1},
            {4, 1, 2, 2, 1, 120, 40, 900, 1, 1200, 2}, {2, 9, 2, 2, 0, 120, 40, 900, 6, 1200, 18},
        };
        for (int load = 0; load < Kept.LOADS; load++) {
            for (int what = 0; what <= 10; what++) {
                Due.is("of(" + load + ", " + what + ")", x.of(load, what), loads[load][what]);
            }
        }
        Due.is("fuel", x.count(1), 38);
        Due.is("steps", x.count(2), 4);
        Due.is("courses", x.count(6), 0b0101);
        Due.holds("course 0", Due.printed(x, 0).equals("low x3;mid/off/full x9;full;off"));
        Due.holds("course 2", Due.printed(x, 2).equals("off/mid/low x2"));
    }

    @Promise(number = 0, words = "THE IMAGE has FUEL and STEPS, too.")
    static void theImageHasFuelAndSteps() {
        KilnCourses x = new KilnCourses();
        x.setting(0, 2);
        x.step(3);
        x.image();
        x.step(4);
        x.back();
        Due.is("fuel", x.count(1), 9);
        Due.is("steps", x.count(2), 3);
    }

    @Promise(number = 0, words = "SHEETS 0 .. 3 are rows of numbers, or missing (as all are at first): of sort 0 shorts, 1 ints.")
    static void sheetsAreMissingAtFirst() {
        KilnCourses x = new KilnCourses();
        for (int sheet = 0; sheet <= 3; sheet++) {
            Due.is("put", x.put(sheet, 0, 0), Bound.MISSING);
            Due.is("tells", x.tells(sheet, 0, 0), Bound.MISSING);
        }
        Due.is("put, sheet 4", x.put(4, 0, 0), Bound.BAD);
        Kept.row(x, 0, 0, 65536 + 20);
        Kept.row(x, 1, 1, 65536 + 20);
        Due.is("a short has 16 bits", x.tells(0, 0, 0), Bound.NONE);
        Due.is("an int has more", x.tells(1, 0, 0), 0);
    }

    @Promise(number = 0, words = "fire() is refused by all STEPS of the COURSE, STRICT or not.")
    static void fireIsRefusedByAllSteps() {
        KilnCourses x = new KilnCourses();
        x.load(THIN, 9, 0);
        Due.course(x, 0, "full x9;off");
        Steps.go(x, 9990);
        Due.is("strict, it would end behind the first", x.fire(0, true), Bound.STATE);
        Due.is("not strict", x.fire(0, false), Bound.STATE);
        Due.is("steps", x.count(2), 9990);
        Due.is("its setting stays", x.zone(0, 1), 0);
        Due.course(x, 1, "full x9");
        Due.is("one step less", x.fire(1, true), 1);
    }

    @Promise(number = 0, words = "tries() what 4, 5: behind all its STEPS.")
    static void triesTellsBehindAllSteps() {
        KilnCourses x = new KilnCourses();
        x.load(THIN, 9, 0);
        x.load(HOLLOW, 1, 2);
        Due.heats(x, 20, 500, 1000);
        Due.course(x, 0, "full x2");
        Due.is("the first trouble", x.tries(0, 1), 1);
        x.heat(2, 890);
        Due.heats(x, 20, 850, 890);
        Due.course(x, 0, "off;off/off/full x3");
        Due.is("the thin one cracks first", x.tries(0, 1) * 10 + x.tries(0, 2), 10);
        Due.is("spoiled ones", x.tries(0, 4), 0b01);
        Due.is("the hollow one is done later", x.tries(0, 5), 0b10);
    }

    @Promise(number = 0, words = "film() makes the SHEET a row of n shorts.")
    static void aFilmIsOfShorts() {
        KilnCourses x = new KilnCourses();
        x.sheet(1, 1, 40);
        x.film(1, 0, 2);
        Due.is("not ints", x.loads(1, 1, 0, 0), Bound.OTHER_SORT);
        Due.is("shorts", x.loads(1, 0, 0, 0), 0);
        Due.is("two", x.put(1, 1, 0), 1);
        Due.is("no third", x.put(1, 2, 0), Bound.OUTSIDE);
    }

    @Promise(number = 0, words = "move() leaves SOAKED, STATE; heat() spoils nothing.")
    static void moveLeavesStateAndHeatSpoilsNothing() {
        KilnCourses x = Kept.some();
        for (int load = 0; load < Kept.LOADS; load++) {
            int soaked = x.of(load, 3);
            int state = x.of(load, 4);
            x.move(load, (x.of(load, 2) + 1) % 3);
            Due.is("soaked of " + load, x.of(load, 3), soaked);
            Due.is("state of " + load, x.of(load, 4), state);
        }
        int spoiled = x.count(5);
        Due.heats(x, 1300, 0, 1300);
        Due.heats(x, 0, 1300, 0);
        Due.is("spoiled ones", x.count(5), spoiled);
        Due.is("soaked of 4", x.of(4, 3), 2);
    }

    @Promise(number = 0, words = "join() of one with itself doubles it.")
    static void joinOfOneWithItself() {
        KilnCourses x = new KilnCourses();
        Due.course(x, 0, "mid x2");
        Due.is("one leg", x.join(0, 0), 2);
        Due.is("two legs", x.join(0, 0), 4);
        Due.is("four legs are too many", x.join(0, 0), Bound.FULL);
        Due.course(x, 1, "low;mid/off/full x3;off");
        Due.is("three legs", x.join(1, 1), 6);
        Due.holds("doubled", Due.printed(x, 1).equals("low;mid/off/full x3;off;low;mid/off/full x3;off"));
    }
}
