/** Promises 13 to 18: steps truly and in thought, what may be, how long till. */
public final class StepsTest {
    public static void main(String[] args) {
        heatsOfAStep();
        fuelAndSteps();
        stepRefusals();
        cracks();
        slumps();
        soaks();
        next();
        may();
        weakest();
        until();
        cool();
        Due.end();
    }

    private static void heatsAre(String when, KilnCourses x, int first, int second, int third) {
        Due.is(when + ": heat of 0", x.zone(0, 0), first);
        Due.is(when + ": heat of 1", x.zone(1, 0), second);
        Due.is(when + ": heat of 2", x.zone(2, 0), third);
    }

    private static void heatsOfAStep() {
        KilnCourses x = new KilnCourses();
        Due.heats(x, 100, 200, 20);
        x.step(1);
        heatsAre("by heats ahead", x, 100 + 12 - 2, 200 - 12 - 22 - 4, 20 + 22);
        Due.heats(x, 0, 0, 0);
        x.step(1);
        heatsAre("below the room's heat", x, 0, 0, 0);
        Due.heats(x, 27, 20, 13);
        x.step(1);
        heatsAre("cut toward 0", x, 27, 20, 13);
        Due.heats(x, 1300, 1300, 1300);
        Due.settings(x, 3, 1, 2);
        x.step(1);
        heatsAre("1300 at most", x, 1300, 1300 - 32, 1300);
        Due.heats(x, 0, 1300, 0);
        Due.settings(x, 0, 0, 0);
        x.step(1);
        heatsAre("0 at least", x, 162, 1300 - 162 - 162 - 32, 162);
        massSlows();
    }

    private static void massSlows() {
        KilnCourses x = new KilnCourses();
        x.load(2, 9, 0);
        x.load(0, 1, 1);
        Due.settings(x, 3, 2, 1);
        x.step(1);
        heatsAre("mass", x, 20 + 1980 / 28, 20 + 1190 / 11, 20 + 59);
    }

    private static void fuelAndSteps() {
        KilnCourses x = new KilnCourses();
        Due.settings(x, 1, 2, 3);
        x.step(1);
        Due.is("fuel", x.count(1), 10);
        x.setting(1, 0);
        x.step(60);
        Due.is("fuel", x.count(1), 10 + 60 * 7);
        Due.is("steps", x.count(2), 61);
    }

    private static void stepRefusals() {
        KilnCourses x = new KilnCourses();
        Due.is("step 0", x.step(0), -2);
        Due.is("step 61", x.step(61), -2);
        Due.is("step -1", x.step(-1), -2);
        Due.is("steps", x.count(2), 0);
        for (int i = 0; i < 166; i++) {
            Due.is("step 60", x.step(60), 0);
        }
        Due.is("step beyond 9999", x.step(40), -3);
        Due.is("steps", x.count(2), 9960);
        Due.is("step to 9999", x.step(39), 0);
        Due.is("step beyond 9999", x.step(1), -3);
        Due.is("BAD ahead of STATE", x.step(61), -2);
        Due.is("in thought it goes on", x.next(0), 20);
        x.setting(0, 3);
        Due.is("in thought it goes on", x.until(0, 100), 1);
        Due.is("steps", x.count(2), 9999);
        Due.course(x, 0, "low");
        Due.is("fire beyond 9999", x.fire(0, false), -3);
        Due.is("tries beyond 9999", x.tries(0, 0), 3);
    }

    /** A load alone in zone 0, off, with the heat beside it. */
    private static KilnCourses besideOf(int kind, int size, int heat, int beside) {
        KilnCourses x = new KilnCourses();
        x.load(kind, size, 0);
        Due.heats(x, heat, beside, beside);
        return x;
    }

    private static void cracks() {
        KilnCourses x = besideOf(0, 1, 100, 1076);
        Due.is("a rise of 120", x.step(1), 0);
        Due.is("a rise of 120", x.zone(0, 0), 220);
        x = besideOf(0, 1, 100, 1084);
        Due.is("a rise of 121", x.step(1), 1);
        Due.is("cracked", x.of(0, 4), 2);
        Due.is("spoiled only once", x.step(1), 0);
        x = besideOf(0, 1, 820, 340);
        Due.is("a fall of 80", x.step(1), 0);
        Due.is("a fall of 80", x.zone(0, 0), 740);
        x = besideOf(0, 1, 820, 332);
        Due.is("a fall of 81", x.step(1), 1);
        Due.is("cracked", x.of(0, 4), 2);
        x = besideOf(2, 1, 820, 652);
        Due.is("a brick's fall of 41", x.step(1), 1);
        x = besideOf(4, 1, 100, 436);
        Due.is("a hollow one's rise of 40", x.step(1), 0);
        x = besideOf(4, 1, 100, 444);
        Due.is("a hollow one's rise of 41", x.step(1), 1);
        x = besideOf(3, 9, 600, 856);
        Due.is("a glazed one's rise of 18 from 600", x.step(1), 0);
        x = besideOf(3, 9, 600, 864);
        Due.is("a glazed one's rise of 19 from 600", x.step(1), 1);
        x = besideOf(0, 1, 1000, 20);
        Due.is("cracked goes ahead of slumped and soaked", x.step(1), 1);
        Due.is("nothing soaked", x.of(0, 3), 0);
    }

    private static void slumps() {
        KilnCourses x = besideOf(0, 1, 1080, 1104);
        x.setting(0, 2);
        Due.is("1100 at a pot", x.step(1), 0);
        Due.is("1100 at a pot", x.zone(0, 0), 1100);
        Due.is("it soaks", x.of(0, 3), 1);
        x = besideOf(0, 1, 1080, 1112);
        x.setting(0, 2);
        Due.is("1101 at a pot", x.step(1), 1);
        Due.is("slumped", x.of(0, 4), 3);
        Due.is("slumped ones don't soak", x.of(0, 3), 0);
        x = besideOf(3, 1, 1300, 1300);
        x.setting(0, 3);
        Due.is("1300 at a glazed one", x.step(1), 0);
        x = besideOf(1, 9, 1050, 1300);
        x.setting(0, 3);
        Due.is("cracked, if it rises too much and is too hot", x.step(1), 1);
        Due.is("cracked", x.of(0, 4), 2);
    }

    private static void soaks() {
        KilnCourses x = besideOf(0, 1, 800, 944);
        x.step(1);
        Due.is("799 at a pot", x.zone(0, 0) * 10 + x.of(0, 3), 7990);
        x = besideOf(0, 1, 800, 952);
        x.step(1);
        Due.is("800 at a pot", x.zone(0, 0) * 10 + x.of(0, 3), 8001);
        Due.is("not done yet", x.of(0, 4), 0);
        Due.heats(x, 800, 952, 952);
        x.step(1);
        Due.is("done", x.of(0, 4), 1);
        Due.is("done loads", x.count(4), 1);
        Due.heats(x, 800, 952, 952);
        x.step(1);
        Due.is("soaks on", x.of(0, 3), 3);
        Due.heats(x, 20, 1300, 1300);
        Due.is("a done one cracks", x.step(1), 1);
        Due.is("a done one cracks", x.of(0, 4), 2);
        Due.is("soaked stays", x.of(0, 3), 3);
        x = besideOf(5, 1, 1300, 1300);
        Due.settings(x, 3, 3, 3);
        x.step(60);
        Due.is("soaked", x.of(0, 3), 60);
        x.step(60);
        Due.is("soaked 99 at most", x.of(0, 3), 99);
        x = besideOf(4, 1, 900, 1300);
        x.step(1);
        Due.is("need 1", x.of(0, 4), 1);
    }

    private static void next() {
        KilnCourses x = new KilnCourses();
        x.load(0, 1, 0);
        x.load(4, 1, 1);
        x.load(4, 1, 2);
        Due.heats(x, 100, 1084, 1084);
        Due.is("next heat", x.next(0), 100 + 123 - 2);
        Due.is("next heat", x.next(1), 1084 - 123 - 26);
        Due.is("next heat", x.next(2), 1084 - 26);
        Due.is("next spoiled", x.next(3), 0b011);
        Due.is("next done", x.next(4), 0b100);
        Due.is("next what -1", x.next(-1), -2);
        Due.is("next what 5", x.next(5), -2);
        Due.is("nothing is kept", x.count(2) + x.count(4) + x.count(5), 0);
        Due.is("nothing is kept", x.zone(0, 0), 100);
        x.step(1);
        Due.is("spoiled already", x.next(3), 0);
        Due.is("done already", x.next(4), 0b100);
    }

    private static void may() {
        KilnCourses x = new KilnCourses();
        Due.is("may without loads", x.may(0), 0b1111);
        x.load(1, 9, 0);
        // Mass 4: low gives 42, mid 84, full 141; 48 are borne.
        Due.is("may of a thin one", x.may(0), 0b0011);
        Due.is("may of a zone beside it", x.may(1), 0b1111);
        x.setting(0, 3);
        Due.is("trouble beside it is trouble", x.may(1), 0);
        Due.is("of its own zone the setting does not matter", x.may(0), 0b0011);
        Due.is("nothing is kept", x.zone(0, 1), 3);
        Due.is("may zone 3", x.may(3), -2);
        Due.is("may zone -1", x.may(-1), -2);
        x.step(1);
        Due.is("cracked", x.of(0, 4), 2);
        Due.is("a spoiled one is no trouble", x.may(0), 0b1111);
        x = new KilnCourses();
        x.load(0, 1, 1);
        Due.heats(x, 20, 1000, 20);
        // It falls by 268 and what is given: 0, 9, 48, 90.
        Due.is("no setting helps", x.may(1), 0);
        Due.heats(x, 800, 1000, 800);
        // It falls by 74 less what is given.
        Due.is("all settings do", x.may(1), 0b1111);
        Due.heats(x, 750, 1000, 750);
        // It falls by 86 less 0, 9, 48, 90.
        Due.is("off does not", x.may(1), 0b1110);
    }

    private static void weakest() {
        KilnCourses x = new KilnCourses();
        Due.is("weakest of none", x.weakest(1), -1);
        x.load(0, 1, 1);
        x.load(2, 1, 1);
        Due.is("of like ones the first", x.weakest(1), 0);
        x.load(4, 1, 1);
        x.load(1, 9, 1);
        Due.is("hollow, cold", x.weakest(1), 2);
        x.heat(1, 200);
        Due.is("thin, warm", x.weakest(1), 3);
        x.load(3, 6, 1);
        x.heat(1, 599);
        Due.is("thin 48, glazed 72", x.weakest(1), 3);
        x.heat(1, 600);
        Due.is("thin 48, glazed 42", x.weakest(1), 4);
        Due.is("another zone", x.weakest(0), -1);
        x.heat(1, 1300);
        x.heat(0, 1300);
        x.heat(2, 1300);
        x.step(1);
        Due.is("all but the glazed one slumped", x.count(5), 0b01111);
        x.load(0, 1, 1);
        x.move(4, 0);
        Due.is("spoiled ones don't count", x.weakest(1), 5);
        Due.is("weakest zone 3", x.weakest(3), -2);
        Due.is("weakest zone -1", x.weakest(-1), -2);
    }

    private static void until() {
        KilnCourses x = new KilnCourses();
        Due.is("it is so now", x.until(0, 20), 0);
        Due.is("never", x.until(0, 21), -1);
        x.setting(0, 3);
        Due.is("one step", x.until(0, 218), 1);
        Due.is("two steps", x.until(0, 219), 2);
        Due.is("beside", x.until(1, 21), 2);
        Due.is("nothing is kept", x.zone(0, 0), 20);
        Due.is("until zone 3", x.until(3, 20), -2);
        Due.is("until zone -1", x.until(-1, 20), -2);
        Due.is("until 1301", x.until(0, 1301), -2);
        Due.is("until -1", x.until(0, -1), -2);
        Due.is("until 0", x.until(2, 0), 0);
        // The least heat that is first reached behind just 60 steps, and one that needs more.
        KilnCourses slow = new KilnCourses();
        slow.load(2, 9, 0);
        slow.load(2, 9, 0);
        slow.load(2, 9, 0);
        slow.load(2, 9, 0);
        slow.setting(0, 3);
        int behind59 = heatBehind(59);
        int behind60 = heatBehind(60);
        int behind61 = heatBehind(61);
        Due.is("60 steps", slow.until(0, behind60), behind60 > behind59 ? 60 : slow.until(0, behind59));
        if (behind61 > behind60) {
            Due.is("61 steps are too many", slow.until(0, behind61), -1);
        }
    }

    private static int heatBehind(int n) {
        KilnCourses slow = new KilnCourses();
        slow.load(2, 9, 0);
        slow.load(2, 9, 0);
        slow.load(2, 9, 0);
        slow.load(2, 9, 0);
        slow.setting(0, 3);
        for (int i = 0; i < n; i++) {
            slow.step(1);
        }
        return slow.zone(0, 0);
    }

    private static void cool() {
        KilnCourses x = new KilnCourses();
        Due.is("it is so now", x.cool(20), 0);
        Due.is("it is cold, but not so cold", x.cool(19), -1);
        Due.heats(x, 420, 420, 420);
        Due.settings(x, 3, 3, 3);
        Due.is("so now", x.cool(420), 0);
        Due.is("all off: 410", x.cool(419), 1);
        Due.is("all off: 410", x.cool(410), 1);
        Due.is("all off: 401", x.cool(409), 2);
        x.heat(2, 430);
        Due.is("no heat is above", x.cool(429), 1);
        Due.is("no heat is above", x.cool(430), 0);
        Due.is("settings stay", x.zone(0, 1), 3);
        Due.is("cool -1", x.cool(-1), -2);
        Due.is("cool 1301", x.cool(1301), -2);
        // From 98 on one falls by 1 a step at last: 60 steps end far above 20.
        Due.heats(x, 1300, 1300, 1300);
        int behind60 = coolingBehind(60);
        Due.is("60 steps", x.cool(behind60), coolingBehind(59) > behind60 ? 60 : x.cool(coolingBehind(59)));
        Due.is("61 steps are too many", x.cool(coolingBehind(61) < behind60 ? coolingBehind(61) : 0), -1);
    }

    private static int coolingBehind(int n) {
        KilnCourses x = new KilnCourses();
        Due.heats(x, 1300, 1300, 1300);
        for (int i = 0; i < n; i++) {
            x.step(1);
        }
        return x.zone(0, 0);
    }
}
