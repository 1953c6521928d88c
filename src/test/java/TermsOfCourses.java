/** The terms' second part: courses, the tape, texts and their faults, printing, firing, thoughts. */
final class TermsOfCourses {
    private TermsOfCourses() {
    }

    private static void reads(String text, String printed) {
        KilnCourses x = new KilnCourses();
        Due.holds("'" + text + "' is a text", Due.course(x, 0, text) > 0);
        String got = Due.printed(x, 0);
        Due.holds("'" + text + "' is printed '" + printed + "', not '" + got + "'", got.equals(printed));
    }

    private static void fault(String text, int place) {
        KilnCourses x = new KilnCourses();
        Due.is("the fault of '" + text + "'", Due.course(x, 0, text), -100 - place);
    }

    @Promise(number = 0, words = "COURSES 0 .. 3, none at first")
    static void coursesAreNoneAtFirst() {
        KilnCourses x = new KilnCourses();
        Due.is("courses", x.count(6), 0);
        for (int c = 0; c <= 3; c++) {
            Due.is("course " + c, x.clear(c), Bound.STATE);
        }
        Due.is("course 4", x.clear(4), Bound.BAD);
    }

    @Promise(number = 0, words = "LEGS (1 .. 6), each a SETTING for each of the ZONES")
    static void legsAre1To6() {
        KilnCourses x = new KilnCourses();
        Due.is("none", Due.course(x, 0, ""), -100);
        Due.is("1 leg", Due.course(x, 0, "off"), 1);
        Due.is("6 legs", Due.course(x, 0, "off;off;off;off;off;off"), 6);
        Due.is("7 legs", Due.course(x, 0, "off;off;off;off;off;off;off"), -124);
    }

    @Promise(number = 0, words = "and how many STEPS (1 .. 9).")
    static void stepsOfALegAre1To9() {
        KilnCourses x = new KilnCourses();
        for (int n = 1; n <= 9; n++) {
            Due.is("x" + n, Due.course(x, 0, "off x" + n), 1);
            Due.is("steps", x.leg(0, 0, 3), n);
        }
        fault("off x0", 5);
        fault("off x10", 5);
    }

    @Promise(number = 0, words = "THE TAPE (120 bytes at most, 0 .. 127 each) is read as a TEXT of one.")
    static void aTapeOf120BytesIsReadToItsEnd() {
        String blanks = " ".repeat(112);
        reads(blanks + "full x 7", "full x7");
        reads("full x 7" + blanks, "full x7");
        fault(blanks + "full x  ", 120);
        fault(blanks + "full x7;", 120);
        fault(blanks + "full x7" + (char) 127, 119);
        fault(blanks + "full x7" + (char) 0, 119);
    }

    @Promise(number = 0, words = "TOKENS, each as long as can be")
    static void tokensAreAsLongAsCanBe() {
        fault("lowx2", 0);
        fault("low/mid/fullx2", 8);
        fault("low xx2", 4);
        reads("low x2;mid", "low x2;mid");
        fault("low x2mid", 6);
    }

    @Promise(number = 0, words = "WORDS (as many letters a .. z as stand there)")
    static void wordsAreOfLettersAToZAlone() {
        fault("lowa", 0);
        fault("lowz", 0);
        fault("alow", 0);
        fault("zlow", 0);
        fault("low`", 3);
        fault("low{", 3);
        fault("lowA", 3);
        fault("lowZ", 3);
        fault("Low", 0);
        fault("offoff", 0);
    }

    @Promise(number = 0, words = "NUMBERS (as many digits as stand there)")
    static void numbersAreOfAllTheirDigits() {
        fault("low x00", 5);
        fault("low x01", 5);
        fault("low x10", 5);
        fault("low x99", 5);
        fault("low x123456789", 5);
        fault("low x4294967297", 5);
        fault("low x1/", 6);
        fault("low x9:", 6);
        fault("low x1 1", 7);
    }

    @Promise(number = 0, words = "SIGNS / ;")
    static void aSignIsOneByte() {
        fault("low//mid/mid", 4);
        fault("low;;mid", 4);
        reads("low/mid/off;off", "low/mid/off;off");
    }

    @Promise(number = 0, words = "blanks (32, 10) may stand between.")
    static void blanksAre32And10Alone() {
        reads("low/mid/full x3;off", "low/mid/full x3;off");
        reads(" low / mid / full x 3 ; off ", "low/mid/full x3;off");
        reads("\nlow\n/\nmid\n/\nfull\nx\n3\n;\noff\n", "low/mid/full x3;off");
        reads(" \n \nlow \n\n x2", "low x2");
        fault("low\tx2", 3);
        fault("low\rx2", 3);
        fault("low" + (char) 11 + "x2", 3);
        fault("low" + (char) 31 + "x2", 3);
        fault("low" + (char) 33 + "x2", 3);
        fault("lo w", 0);
        fault("low x1 0", 7);
    }

    @Promise(number = 0, words = "TEXT: LEGS, with ; between.")
    static void aSemicolonStandsBetweenLegsAlone() {
        fault(";low", 0);
        fault("low;", 4);
        fault("low;;low", 4);
        fault("low low", 4);
        fault("low x2 low", 7);
        reads("low;low", "low;low");
    }

    @Promise(number = 0, words = "LEG: a SETTING (for all ZONES), or three, with / between (for ZONES 0, 1, 2)")
    static void aLegHasOneSettingOrThree() {
        KilnCourses x = new KilnCourses();
        Due.course(x, 0, "mid;full/low/off");
        for (int zone = 0; zone < 3; zone++) {
            Due.is("one setting, zone " + zone, x.leg(0, 0, zone), 2);
        }
        Due.is("three, zone 0", x.leg(0, 1, 0), 3);
        Due.is("three, zone 1", x.leg(0, 1, 1), 1);
        Due.is("three, zone 2", x.leg(0, 1, 2), 0);
        fault("low/mid", 7);
        fault("low/mid x2", 8);
        fault("low/mid;off", 7);
        fault("low/mid/off/low", 11);
        fault("low/", 4);
        fault("low/mid/", 8);
        fault("/low/mid", 0);
        fault("low/x2", 4);
        fault("low/mid/;", 8);
    }

    @Promise(number = 0, words = "then perhaps x and a NUMBER of one digit, 1 .. 9 (else 1 STEP).")
    static void withoutANumberALegIsOneStep() {
        KilnCourses x = new KilnCourses();
        Due.course(x, 0, "low;low/mid/off;low x1;low/mid/off x9;low x2");
        int[] steps = {1, 1, 1, 9, 2};
        for (int k = 0; k < steps.length; k++) {
            Due.is("steps of leg " + k, x.leg(0, k, 3), steps[k]);
        }
        fault("low x", 5);
        fault("low x;mid", 5);
        fault("low 2", 4);
        fault("low 2x", 4);
        fault("low x2 x3", 7);
        fault("low x2/mid/off", 6);
        fault("low/mid/off x0", 13);
        fault("low xfull", 4);
    }

    @Promise(number = 0, words = "SETTING: off, low, mid, full.")
    static void theFourWords() {
        KilnCourses x = new KilnCourses();
        Due.course(x, 0, "off;low;mid;full");
        for (int s = 0; s < 4; s++) {
            Due.is("setting " + s, x.leg(0, s, 1), s);
        }
        fault("of", 0);
        fault("offf", 0);
        fault("fule", 0);
        fault("ful", 0);
        fault("fulll", 0);
        fault("lo", 0);
        fault("mud", 0);
        fault("high", 0);
    }

    @Promise(number = 0, words = "FAULT: the place of the first byte of the first TOKEN that can't stand there")
    static void theFirstByteOfTheFirstWrongToken() {
        fault("low   off x10", 6);
        fault("low x12; ?", 5);
        fault("low ; ; ?", 6);
        fault("\n\n x3;low", 3);
        fault("low x2   mid", 9);
        fault("low;7;?", 4);
    }

    @Promise(number = 0, words = "(the text's size, if it ends too early;")
    static void aTextThatEndsTooEarly() {
        fault("", 0);
        fault(" ", 1);
        fault("\n \n", 3);
        fault("low;", 4);
        fault("low;  ", 6);
        fault("low/", 4);
        fault("low/mid", 7);
        fault("low/mid ", 8);
        fault("low/mid/ ", 9);
        fault("low x", 5);
        fault("low x \n", 7);
        fault("off;off;off;off;off;off;", 24);
        fault("off;off;off;off;off;off; ", 25);
    }

    @Promise(number = 0, words = "the first one of a seventh LEG, whatever it is)")
    static void theFirstTokenOfASeventhLeg() {
        String six = "off;off;off;off;off;off;";
        fault(six + "low", 24);
        fault(six + " \nlow", 26);
        fault(six + ";", 24);
        fault(six + "/", 24);
        fault(six + "x2", 24);
        fault(six + "17", 24);
        fault(six + "?", 24);
        fault(six + " blub", 25);
        fault("off;off;off;off;off;off x0;off", 25);
        fault("off;off;off;off;off;off off;", 24);
    }

    @Promise(number = 0, words = "also of a byte that begins none,")
    static void aByteThatBeginsNoToken() {
        int[] bytes = {0, 1, 9, 11, 13, 31, 33, 46, 58, 60, 64, 65, 90, 91, 96, 123, 127};
        for (int b : bytes) {
            fault("low " + (char) b, 4);
            fault((char) b + "low", 0);
            fault("low x" + (char) b, 5);
        }
    }

    @Promise(number = 0, words = "a WORD that is none of these,")
    static void aWordThatIsNoneOfThese() {
        fault("low;mild", 4);
        fault("low y2", 4);
        fault("low/mid/blub", 8);
        fault("low x off", 6);
        fault("low x y", 6);
    }

    @Promise(number = 0, words = "a NUMBER that is no such.")
    static void aNumberThatIsNoSuch() {
        fault("low x 0", 6);
        fault("low x 10", 6);
        fault("low x 09;mid", 6);
        fault("3", 0);
        fault("low/3", 4);
    }

    @Promise(number = 0, words = "PRINTED: LEGS, ; between them")
    static void semicolonsArePrintedBetweenLegsAlone() {
        reads("off", "off");
        reads("off;off", "off;off");
        reads("off ; low ; mid ; full ; mid ; low", "off;low;mid;full;mid;low");
    }

    @Promise(number = 0, words = "of each the word of its SETTING, if all three are the same, else three words, / between them")
    static void oneWordIfAllThreeAreTheSame() {
        reads("low/low/low", "low");
        reads("low/low/mid", "low/low/mid");
        reads("low/mid/low", "low/mid/low");
        reads("mid/low/low", "mid/low/low");
        reads("off/off/off x2;full/full/full", "off x2;full");
        reads("off/low/mid", "off/low/mid");
    }

    @Promise(number = 0, words = "behind it, if it is more than 1 STEP, a blank, x and the digit.")
    static void oneStepIsNotPrinted() {
        reads("low x1", "low");
        reads("low x 2", "low x2");
        reads("low/mid/low x1;low x9", "low/mid/low;low x9");
        reads("low/mid/low x 9", "low/mid/low x9");
    }

    @Promise(number = 0, words = "x and its digit may stand side by side in a TEXT (x2), as they do in what is PRINTED; there no blank stands beside a sign.")
    static void noBlankIsPrintedBesideASign() {
        reads("low x2", "low x2");
        reads("low x 2", "low x2");
        reads("low / mid / off ; off", "low/mid/off;off");
    }

    @Promise(number = 0, words = "A COURSE is FIRED: LEG by LEG, STEP by STEP: SETTINGS are as the LEG has them (and stay so), a STEP goes.")
    static void settingsStayBehindACourse() {
        KilnCourses x = new KilnCourses();
        Due.settings(x, 3, 3, 3);
        Due.course(x, 0, "full;off/low/mid x2");
        Due.is("fire", x.fire(0, false), 3);
        for (int zone = 0; zone < 3; zone++) {
            Due.is("setting of zone " + zone, x.zone(zone, 1), zone);
        }
        Due.is("fuel", x.count(1), 18 + 2 * 4);
    }

    @Promise(number = 0, words = "STRICT: it ends behind the first STEP in which there is TROUBLE.")
    static void strictEndsBehindTheFirstTrouble() {
        int[] troubleAt = {1, 3, 4, 5};
        String[] texts = {"full x4;low", "low x2;full x9", "low x3;full;off", "low x4;full"};
        for (int i = 0; i < texts.length; i++) {
            KilnCourses x = thinOne();
            Due.course(x, 0, texts[i]);
            Due.is("'" + texts[i] + "' strict", x.fire(0, true), troubleAt[i]);
            Due.is("that step went", x.count(2), troubleAt[i]);
            Due.is("and spoiled it", x.count(5), 1);
            Due.is("settings are of that leg", x.zone(2, 1), 3);
        }
        KilnCourses x = thinOne();
        Due.course(x, 0, "full x4;low");
        Due.is("not strict", x.fire(0, false), 5);
    }

    /** It bears low, as long as it is cold, and never full. */
    private static KilnCourses thinOne() {
        KilnCourses x = new KilnCourses();
        x.load(1, 9, 0);
        return x;
    }

    @Promise(number = 0, words = "IN THOUGHT: nothing is kept of it")
    static void nothingIsKeptOfAThought() {
        String untouched = Kept.seen(Kept.some());
        KilnCourses x = Kept.some();
        for (int what = 0; what <= 4; what++) {
            x.next(what);
        }
        x.may(1);
        x.until(0, 1300);
        x.cool(0);
        x.tries(0, 5);
        x.plan(4, 6, 0);
        x.wary();
        x.careful(30, 1);
        x.tells(0, 0, 0);
        x.tells(1, 1, 1);
        x.drawn(5, 40, 2);
        Due.holds("all is as it was", Kept.seen(x).equals(untouched));
        x = Kept.some();
        x.anew(0);
        x.anew(1);
        String raw = Kept.seen(x);
        x = Kept.some();
        x.anew(0);
        x.anew(1);
        x.plan(4, 6, 1);
        x.careful(30, 0);
        Due.holds("all is as it was without spoiled ones", Kept.seen(x).equals(raw));
    }

    @Promise(number = 0, words = "STEPS may go beyond 9999 there.")
    static void stepsGoBeyond9999InThought() {
        KilnCourses x = new KilnCourses();
        x.load(5, 1, 0);
        Due.course(x, 0, "full x9;full x9");
        Steps.go(x, 9999);
        Due.heats(x, 1100, 1100, 1100);
        Due.settings(x, 3, 3, 3);
        Due.is("truly they don't", x.step(1), Bound.STATE);
        Due.is("nor by a course", x.fire(0, true), Bound.STATE);
        Due.is("next", x.next(1), 1100 + 90 - 27);
        Due.is("may", x.may(0), 0b1111);
        Due.is("until", x.until(1, 1163), 1);
        Due.is("cool", x.cool(1099), 1);
        Due.is("tries", x.tries(0, 0), 18 * 18);
        Due.is("plan", x.plan(2, 1, 0), 0);
        Due.is("careful", x.careful(1, 4), 1163);
        Due.is("film", x.film(0, 1, 1), 1);
        Due.is("tells", x.tells(0, 1, 0), Bound.NONE);
        x.put(0, 0, 1162);
        Due.is("tells", x.tells(0, 1, 0), 0);
        Due.is("drawn", x.drawn(0, 2, 1), 1);
        Due.is("lay", x.lay(1, 2, 1), 0);
        Due.is("steps", x.count(2), 9999);
    }
}
