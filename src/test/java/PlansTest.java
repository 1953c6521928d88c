/** Promises 28 to 31: plans, careful steps. */
public final class PlansTest {
    public static void main(String[] args) {
        planWithoutLoads();
        plan();
        planNone();
        planRefusals();
        lay();
        wary();
        careful();
        carefulWithoutChoice();
        Due.end();
    }

    private static void planWithoutLoads() {
        KilnCourses x = new KilnCourses();
        for (int k = 1; k <= 4; k++) {
            Due.is("no loads: fuel", x.plan(k, 6, 0), 0);
            Due.is("no loads: digits", x.plan(k, 6, 1), 0);
        }
        Due.is("no loads: lay", x.lay(0, 4, 6), 0);
        Due.holds("all off", Due.printed(x, 0).equals("off x6;off x6;off x6;off x6"));
    }

    private static void plan() {
        KilnCourses x = new KilnCourses();
        x.load(0, 1, 1);
        Due.heats(x, 810, 810, 810);
        // Off falls by 19 below 800; low is 20 * 10 by 11 less 19: 809, 808.
        Due.is("low twice", x.plan(2, 1, 0), 6);
        Due.is("low twice", x.plan(2, 1, 1), 11);
        Due.is("in one leg", x.plan(1, 2, 1), 1);
        Due.is("one step is too short", x.plan(1, 1, 0), -1);
        // Of low low off, low off low and off low low only the first stays above 800.
        Due.is("then off", x.plan(3, 1, 1), 110);
        Due.is("then off twice", x.plan(4, 1, 1), 1100);
        Due.is("fuel more", x.plan(4, 1, 0), 6);
        Due.settings(x, 3, 3, 3);
        x.step(1);
        x.anew(0);
        Due.heats(x, 830, 830, 830);
        // Off off ends at 791, off low at 809, low off at 807.
        Due.is("fuel ahead does not count", x.plan(2, 1, 0), 3);
        Due.is("of like ones the first", x.plan(2, 1, 1), 1);
        Due.is("settings, fuel and steps stay", x.zone(0, 1) * 1000 + x.count(1) * 10 + x.count(2), 3181);
        Due.heats(x, 900, 900, 900);
        Due.is("hot enough by itself", x.plan(2, 1, 1), 0);
        x.step(2);
        Due.is("done", x.count(4), 1);
        Due.heats(x, 20, 20, 20);
        Due.is("done ahead counts as done", x.plan(1, 1, 0), 0);
    }

    private static void planNone() {
        KilnCourses x = new KilnCourses();
        x.load(0, 1, 0);
        x.load(0, 1, 1);
        Due.heats(x, 900, 900, 900);
        Due.is("there is one", x.plan(2, 1, 0), 0);
        Due.heats(x, 900, 1200, 900);
        x.step(1);
        Due.heats(x, 900, 900, 900);
        Due.is("one is spoiled", x.count(5), 2);
        Due.is("none with one spoiled", x.plan(2, 1, 0), -1);
        Due.is("none with one spoiled", x.plan(2, 1, 1), -1);
        Due.is("none with one spoiled", x.lay(0, 2, 1), -3);
        x.take();
        Due.is("without it there is", x.plan(2, 1, 0), 0);
    }

    private static void planRefusals() {
        KilnCourses x = new KilnCourses();
        Due.is("k 0", x.plan(0, 1, 0), -2);
        Due.is("k 5", x.plan(5, 1, 0), -2);
        Due.is("n 0", x.plan(1, 0, 0), -2);
        Due.is("n 7", x.plan(1, 7, 0), -2);
        Due.is("what 2", x.plan(1, 1, 2), -2);
        Due.is("what -1", x.plan(1, 1, -1), -2);
        Due.is("lay c 4", x.lay(4, 1, 1), -2);
        Due.is("lay c -1", x.lay(-1, 1, 1), -2);
        Due.is("lay k 0", x.lay(0, 0, 1), -2);
        Due.is("lay k 5", x.lay(0, 5, 1), -2);
        Due.is("lay n 0", x.lay(0, 1, 0), -2);
        Due.is("lay n 7", x.lay(0, 1, 7), -2);
        Due.is("no course came", x.count(6), 0);
    }

    private static void lay() {
        KilnCourses x = new KilnCourses();
        x.load(0, 1, 1);
        Due.heats(x, 810, 810, 810);
        Due.course(x, 2, "full;full;full;full");
        Due.is("lay", x.lay(2, 3, 1), 6);
        Due.holds("the plan as a course", Due.printed(x, 2).equals("low;low;off"));
        Due.is("nothing burns", x.count(1), 0);
        Due.is("fired it does what it should", x.fire(2, true), 3);
        Due.is("done", x.count(4), 1);
        Due.is("fuel", x.count(1), 6);
        x.anew(0);
        Due.heats(x, 20, 20, 20);
        Due.is("no plan", x.lay(2, 1, 1), -3);
        Due.holds("the course stays", Due.printed(x, 2).equals("low;low;off"));
    }

    private static void wary() {
        KilnCourses x = new KilnCourses();
        Due.is("without loads", x.wary(), 63);
        x.load(1, 9, 0);
        Due.is("a thin one in zone 0", x.wary(), 16 + 12 + 3);
        x.move(0, 1);
        Due.is("a thin one in zone 1", x.wary(), 48 + 4 + 3);
        x.move(0, 2);
        Due.is("a thin one in zone 2", x.wary(), 48 + 12 + 1);
        Due.settings(x, 3, 3, 3);
        Due.is("settings as they are don't matter", x.wary(), 61);
        Due.is("nothing is kept", x.zone(2, 1), 3);
        Due.heats(x, 1300, 1300, 1300);
        x.take();
        // At 1300 mid gives 34 and 32 are lost: full is no hotter than mid.
        Due.is("of like ones that burn least", x.wary(), 32 + 8 + 2);
        x.load(0, 1, 0);
        Due.is("one slumps by all settings", x.wary(), -1);
        x.step(1);
        Due.is("spoiled ones don't matter, but for their mass", x.wary(), 48 + 8 + 2);
    }

    private static void careful() {
        KilnCourses x = new KilnCourses();
        x.load(1, 9, 0);
        Due.settings(x, 0, 2, 1);
        int[] now = {0, 0, 0, 20, 20, 20, 9};
        for (int what = 0; what <= 6; what++) {
            Due.is("n 0 what " + what, x.careful(0, what), now[what]);
        }
        int[] one = {13, 0, 0, 20 + 590 / 14, 20 + 198, 20 + 198, 31};
        for (int what = 0; what <= 6; what++) {
            Due.is("n 1 what " + what, x.careful(1, what), one[what]);
        }
        Due.is("nothing is kept", x.zone(1, 1) * 100 + x.count(1) + x.count(2), 200);
        Due.is("30 steps: the zones beside it get too hot for it", x.careful(30, 2), 1);
        Due.is("n 31", x.careful(31, 0), -2);
        Due.is("n -1", x.careful(-1, 0), -2);
        Due.is("what 7", x.careful(1, 7), -2);
        Due.is("what -1", x.careful(1, -1), -2);
        x.setting(0, 1);
        x.setting(1, 3);
        x.setting(2, 3);
        x.step(1);
        Due.is("the same truly", x.zone(0, 0), 62);
        Due.is("fuel more than before", x.careful(0, 0), 0);
    }

    private static void carefulWithoutChoice() {
        KilnCourses x = new KilnCourses();
        x.load(0, 1, 0);
        x.load(5, 1, 2);
        Due.heats(x, 1300, 1300, 1300);
        Due.settings(x, 3, 3, 3);
        Due.is("none", x.wary(), -1);
        Due.is("all off then", x.careful(1, 6), 0);
        Due.is("no fuel", x.careful(1, 0), 0);
        Due.is("it slumps", x.careful(1, 2), 1);
        Due.is("heat", x.careful(1, 3), 1300 - 32);
        // Then 1268 each: full gives 74 by 11 and 10, and 31 are lost: 1300 at last.
        Due.is("then as careful as can be", x.careful(2, 0), 18);
        Due.is("done", x.careful(2, 1), 2);
    }
}
