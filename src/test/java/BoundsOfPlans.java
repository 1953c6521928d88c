/** Promises 28 to 31: plans, careful steps. */
final class BoundsOfPlans {
    private BoundsOfPlans() {
    }

    /** A pot at 810: it is done by low, low, then off for two more steps. */
    private static KilnCourses pot() {
        KilnCourses x = new KilnCourses();
        x.load(0, 1, 1);
        Due.heats(x, 810, 810, 810);
        return x;
    }

    @Promise(number = 28, words = "PLAN: FUEL more (what 0), DIGITS (1); NONE.")
    static void fuelAndDigitsOfAPlan() {
        KilnCourses x = pot();
        Due.is("none in one step", x.plan(1, 1, 0), Bound.NONE);
        Due.is("none in one step", x.plan(1, 1, 1), Bound.NONE);
        Due.is("fuel", x.plan(4, 1, 0), 6);
        Due.is("digits", x.plan(4, 1, 1), 1100);
        Due.settings(x, 3, 3, 3);
        x.step(1);
        x.anew(0);
        Due.heats(x, 810, 810, 810);
        Due.is("fuel that burnt ahead is not of it", x.plan(4, 1, 0), 6);
    }

    @Promise(number = 28, words = "BAD.")
    static void planOfNoSuch() {
        Bound.ends(Bound.BAD, 1, 4, "plan(k, 1, 0)", (x, v) -> x.plan(v, 1, 0));
        Bound.ends(Bound.BAD, 1, 6, "plan(1, n, 0)", (x, v) -> x.plan(1, v, 0));
        Bound.ends(Bound.BAD, 0, 1, "plan(1, 1, what)", (x, v) -> x.plan(1, 1, v));
    }

    @Promise(number = 29, words = "COURSE c truly becomes PLAN: FUEL that it BURNS.")
    static void aCourseBecomesThePlan() {
        KilnCourses x = pot();
        Due.course(x, 3, "full;full;full;full;full;full");
        Due.is("lay", x.lay(3, 4, 1), 6);
        Due.holds("in place of a longer one", Due.printed(x, 3).equals("low;low;off;off"));
        Due.is("nothing burnt", x.count(1), 0);
        Due.is("lay where there is none", x.lay(0, 1, 2), 6);
        Due.holds("one leg of two steps", Due.printed(x, 0).equals("low x2"));
        Due.is("fired", x.fire(0, true), 2);
        Due.is("it is done", x.count(4), 1);
        KilnCourses y = new KilnCourses();
        Due.is("without loads", y.lay(0, 4, 6), 0);
        Due.holds("all off", Due.printed(y, 0).equals("off x6;off x6;off x6;off x6"));
    }

    @Promise(number = 29, words = "BAD;")
    static void layOfNoSuch() {
        Bound.ends(Bound.BAD, 0, 3, "lay(c, 1, 1)", (x, v) -> x.lay(v, 1, 1));
        Bound.ends(Bound.BAD, 1, 4, "lay(0, k, 1)", (x, v) -> x.lay(0, v, 1));
        Bound.ends(Bound.BAD, 1, 6, "lay(0, 1, n)", (x, v) -> x.lay(0, 1, v));
    }

    @Promise(number = 29, words = "STATE: there is none.")
    static void layWithoutAPlan() {
        Bound.refused(Bound.STATE, "lay over a course", x -> x.lay(0, 4, 6));
        Bound.refused(Bound.STATE, "lay where there is none", x -> x.lay(1, 4, 6));
        KilnCourses x = pot();
        Due.is("one step is too short", x.lay(2, 1, 1), Bound.STATE);
        Due.is("no course came", x.count(6), 0);
    }

    @Promise(number = 30, words = "CODE of CAREFUL SETTINGS as all is; NONE.")
    static void waryFromTheMostCodeToNone() {
        KilnCourses x = new KilnCourses();
        Due.is("all full", x.wary(), 63);
        x.load(0, 1, 1);
        Due.heats(x, 20, 1000, 20);
        Due.is("one falls too quick, whatever is set", x.wary(), Bound.NONE);
        KilnCourses y = new KilnCourses();
        for (int zone = 0; zone < 3; zone++) {
            y.load(3, 9, zone);
        }
        // From 600 they bear 18: low gives 30, times 10 by 14, less 14: 7; mid 57 less 14.
        Due.heats(y, 600, 600, 600);
        Due.is("all low", y.wary(), 16 + 4 + 1);
        Due.heats(y, 600, 780, 600);
        // Zones 0 and 2 have 22 from beside: off alone is borne there; zone 1 has 44 less, full is 24 more still.
        Due.is("off, mid, off", y.wary(), 8);
    }

    @Promise(number = 31, words = "Behind n (0 .. 30) CAREFUL STEPS, in thought")
    static void from0To30CarefulSteps() {
        KilnCourses x = new KilnCourses();
        Due.is("0 steps", x.careful(0, 0), 0);
        Due.is("1 step", x.careful(1, 0), 18);
        Due.is("1 step", x.careful(1, 3), 218);
        // Full is best till it is at 1300, mid is enough there.
        int fuel = 0;
        int h = 20;
        for (int i = 0; i < 30; i++) {
            int mid = Math.min(1300, h + 120 - h / 15 - (h - 20) / 40);
            int full = Math.min(1300, h + 200 - h / 10 - (h - 20) / 40);
            fuel += full > mid ? 18 : 9;
            h = Math.max(mid, full);
        }
        Due.is("30 steps", x.careful(30, 0), fuel);
        Due.is("30 steps", x.careful(30, 5), h);
        Bound.ends(Bound.BAD, 0, 30, "careful(n, 0)", (y, v) -> y.careful(v, 0));
    }

    @Promise(number = 31, words = "FUEL more (what 0), done LOADS (1; bits), SPOILED ones (2; bits), HEAT of ZONE 0, 1, 2 (3 .. 5), CODE of the SETTINGS then (6).")
    static void carefulWhat() {
        KilnCourses x = Kept.some();
        int code = x.wary();
        int[] told = new int[7];
        for (int what = 0; what <= 6; what++) {
            told[what] = x.careful(1, what);
        }
        Due.settings(x, code / 16, code / 4 % 4, code % 4);
        int fuel = x.count(1);
        x.step(1);
        int[] due = {x.count(1) - fuel, x.count(4), x.count(5), x.zone(0, 0), x.zone(1, 0), x.zone(2, 0), code};
        for (int what = 0; what <= 6; what++) {
            Due.is("careful(1, " + what + ")", told[what], due[what]);
        }
        Due.holds("something of each", due[0] > 0 && due[1] > 0 && due[2] > 0 && due[6] > 0);
    }

    @Promise(number = 31, words = "BAD.")
    static void carefulOfNoSuch() {
        Bound.ends(Bound.BAD, 0, 6, "careful(1, what)", (x, v) -> x.careful(1, v));
    }
}
