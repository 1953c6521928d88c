/** Promises 19 to 27: the tape, courses read, printed, joined, fired. */
final class BoundsOfCourses {
    private static final String LONGEST = "full/full/low x9;full/full/low x9;full/full/low x9;full/full/low x9;full/full/low x9;full/full/low x9";
    private static final int KEPT_TAPE = 14;

    private BoundsOfCourses() {
    }

    @Promise(number = 19, words = "The n lowest bytes (n 1 .. 8) of bytes, the lowest first, come behind THE TAPE: how many it has.")
    static void from1To8BytesTheLowestFirst() {
        KilnCourses x = new KilnCourses();
        Due.is("8 bytes", x.feed(8, Due.packed("low/mid/")), 8);
        Due.is("1 byte", x.feed(1, 'f'), 9);
        Due.is("3 bytes, others don't matter", x.feed(3, 0x8080808080000000L | Due.packed("ull")), 12);
        Due.is("it is read", x.course(0), 1);
        Due.is("zone 0", x.leg(0, 0, 0), 1);
        Due.is("zone 1", x.leg(0, 0, 1), 2);
        Due.is("zone 2", x.leg(0, 0, 2), 3);
        Due.is("7 bytes, the eighth doesn't matter", x.feed(7, -1L << 56 | Due.packed("low x10")), 7);
    }

    @Promise(number = 19, words = "BAD: n, one of these n is above 127;")
    static void aByteAbove127() {
        Bound.ends(Bound.BAD, 1, 8, "feed(n, 0)", (x, v) -> x.feed(v, 0));
        for (int i = 0; i < 8; i++) {
            int at = i;
            KilnCourses x = new KilnCourses();
            Due.is("127 at " + i, x.feed(8, 127L << 8 * i), 8);
            Bound.refused(Bound.BAD, "128 at " + i, y -> y.feed(8, 128L << 8 * at));
            Bound.refused(Bound.BAD, "255 at " + i, y -> y.feed(8, 255L << 8 * at));
            Bound.refused(Bound.BAD, "128 at the last of " + (i + 1), y -> y.feed(at + 1, 128L << 8 * at));
            if (i > 0) {
                Due.is("255 behind the last of " + i, new KilnCourses().feed(i, 255L << 8 * i), i);
            }
        }
    }

    @Promise(number = 19, words = "FULL: not all of them have room (none comes).")
    static void noRoomForAllOfThem() {
        KilnCourses x = new KilnCourses();
        Due.feed(x, " ".repeat(113));
        Due.is("8 behind 113", x.feed(8, Due.packed("low x2;x")), Bound.FULL);
        Due.is("none came", x.count(3), 113);
        Due.is("BAD is named ahead of FULL", x.feed(8, 128), Bound.BAD);
        Due.is("7 behind 113", x.feed(7, Due.packed("low x 2")), 120);
        Due.is("1 behind 120", x.feed(1, ' '), Bound.FULL);
        Due.is("BAD is named ahead of FULL", x.feed(9, 0), Bound.BAD);
        Due.is("120", x.count(3), 120);
        Due.is("it is read", x.course(0), 1);
        Due.is("to its end", x.leg(0, 0, 3), 2);
        Due.is("then there is room again", x.feed(8, 0), 8);
    }

    @Promise(number = 20, words = "THE TAPE, which is empty then (by a FAULT, too), is the TEXT of COURSE c: how many LEGS;")
    static void theTapeIsEmptyThen() {
        KilnCourses x = new KilnCourses();
        Due.is("1 leg", Due.course(x, 3, "low"), 1);
        Due.is("empty", x.count(3), 0);
        Due.is("6 legs in its place", Due.course(x, 3, "low;mid;off;low;mid;full"), 6);
        Due.is("empty", x.count(3), 0);
        Due.is("2 legs in its place", Due.course(x, 3, "off;mid"), 2);
        Due.is("no third one", x.leg(3, 2, 0), Bound.OUTSIDE);
        Due.is("a fault", Due.course(x, 3, "low;?"), -104);
        Due.is("empty by a fault", x.count(3), 0);
        Due.is("an empty one has a fault, too", x.course(3), -100);
    }

    @Promise(number = 20, words = "-100 less its FAULT (COURSE c stays as it was).")
    static void aCourseStaysByAFault() {
        KilnCourses x = new KilnCourses();
        Due.is("at the first place", Due.course(x, 0, "?"), -100);
        Due.is("none by a fault", x.count(6), 0);
        Due.course(x, 0, "low x2;mid");
        Due.is("in the second leg", Due.course(x, 0, "full;?"), -105);
        Due.holds("it stays", Due.printed(x, 0).equals("low x2;mid"));
        Due.is("in a seventh leg", Due.course(x, 0, "full;full;full;full;full;full;full"), -130);
        Due.holds("it stays", Due.printed(x, 0).equals("low x2;mid"));
        Due.is("at the last place", Due.course(x, 0, " ".repeat(119) + "?"), -219);
        Due.is("behind the last place", Due.course(x, 0, " ".repeat(120)), -220);
        Due.holds("it stays", Due.printed(x, 0).equals("low x2;mid"));
    }

    @Promise(number = 20, words = "BAD (THE TAPE stays).")
    static void theTapeStaysForNoCourse() {
        Bound.ends(Bound.BAD, 0, 3, "course(c)", (x, v) -> x.course(v));
        KilnCourses x = Kept.some();
        x.course(4);
        Due.is("the tape stays", x.count(3), KEPT_TAPE);
        Due.is("and is read", x.course(3), 1);
    }

    @Promise(number = 21, words = "Of LEG k (from 0) of a COURSE: SETTING of ZONE 0, 1, 2 (what 0 .. 2), how many STEPS (3).")
    static void theFirstAndTheLastLeg() {
        KilnCourses x = Kept.some();
        int[][] legs = {{1, 1, 1, 3}, {2, 0, 3, 9}, {3, 3, 3, 1}, {0, 0, 0, 1}};
        for (int k = 0; k < Kept.LEGS; k++) {
            for (int what = 0; what <= 3; what++) {
                Due.is("leg(0, " + k + ", " + what + ")", x.leg(0, k, what), legs[k][what]);
            }
        }
        KilnCourses y = new KilnCourses();
        Due.course(y, 0, LONGEST);
        Due.is("the sixth leg", y.leg(0, 5, 3), 9);
        Due.is("a seventh", y.leg(0, 6, 3), Bound.OUTSIDE);
    }

    @Promise(number = 21, words = "BAD: c, what;")
    static void legOfNoCourseOrWhat() {
        Bound.ends(Bound.BAD, 0, 3, "leg(c, 0, 0)", (x, v) -> x.leg(v, 0, 0));
        Bound.ends(Bound.BAD, 0, 3, "leg(0, 0, what)", (x, v) -> x.leg(0, 0, v));
    }

    @Promise(number = 21, words = "STATE: there is none;")
    static void legOfACourseThatIsNone() {
        Bound.refused(Bound.STATE, "leg(1, 0, 0)", x -> x.leg(1, 0, 0));
        Bound.refused(Bound.STATE, "leg(3, 0, 3)", x -> x.leg(3, 0, 3));
        KilnCourses x = Kept.some();
        x.clear(0);
        Due.is("none any more", x.leg(0, 0, 0), Bound.STATE);
    }

    @Promise(number = 21, words = "-12.")
    static void aLegOutside() {
        Bound.ends(Bound.OUTSIDE, 0, Kept.LEGS - 1, "leg(0, k, 0)", (x, v) -> x.leg(0, v, 0));
    }

    @Promise(number = 22, words = "Byte k (from 0) of a COURSE PRINTED; how many bytes (k -1).")
    static void theLongestCourseIsPrinted() {
        KilnCourses x = new KilnCourses();
        Due.course(x, 1, LONGEST);
        Due.is("bytes", x.print(1, -1), LONGEST.length());
        for (int k = 0; k < LONGEST.length(); k++) {
            Due.is("byte " + k, x.print(1, k), LONGEST.charAt(k));
        }
        Due.course(x, 1, "off");
        Due.is("bytes of the shortest", x.print(1, -1), 3);
        Due.is("its last one", x.print(1, 2), 'f');
        Due.is("behind it", x.print(1, 3), Bound.OUTSIDE);
    }

    @Promise(number = 22, words = "BAD: c, k below -1;")
    static void printOfNoCourse() {
        Bound.ends(Bound.BAD, 0, 3, "print(c, 0)", (x, v) -> x.print(v, 0));
        Bound.refused(Bound.BAD, "print(0, -2)", x -> x.print(0, -2));
        Bound.refused(Bound.BAD, "print(0, the least)", x -> x.print(0, Integer.MIN_VALUE));
        Due.is("-1 is the size", Kept.some().print(0, -1), 31);
    }

    @Promise(number = 22, words = "STATE: there is none;")
    static void printOfACourseThatIsNone() {
        Bound.refused(Bound.STATE, "print(1, 0)", x -> x.print(1, 0));
        Bound.refused(Bound.STATE, "print(1, -1)", x -> x.print(1, -1));
    }

    @Promise(number = 22, words = "-12.")
    static void aByteOutside() {
        Due.is("the last one", Kept.some().print(0, 30), 'f');
        Bound.refused(Bound.OUTSIDE, "print(0, 31)", x -> x.print(0, 31));
        Bound.refused(Bound.OUTSIDE, "print(0, 120)", x -> x.print(0, 120));
        Bound.refused(Bound.OUTSIDE, "print(0, the most)", x -> x.print(0, Integer.MAX_VALUE));
    }

    @Promise(number = 23, words = "Whether THE TAPE (it stays) is just as a COURSE is PRINTED: 1, 0.")
    static void justAsItIsPrinted() {
        String text = "off/mid/low x2";
        Due.is("just so", Kept.some().spelled(2), 1);
        Due.is("another course", Kept.some().spelled(0), 0);
        KilnCourses x = Kept.some();
        x.spelled(2);
        Due.is("it stays", x.count(3), KEPT_TAPE);
        x.feed(1, ' ');
        Due.is("a byte more", x.spelled(2), 0);
        for (int k = 0; k < text.length(); k++) {
            Due.is("another byte " + k, spelledBy(text.substring(0, k) + 'z' + text.substring(k + 1)), 0);
        }
        Due.is("a byte less", spelledBy("off/mid/low x"), 0);
        Due.is("none", spelledBy(""), 0);
        Due.is("the same course by other blanks", spelledBy("off/mid/low x 2"), 0);
        KilnCourses y = new KilnCourses();
        Due.course(y, 0, LONGEST);
        Due.feed(y, LONGEST);
        Due.is("the longest", y.spelled(0), 1);
    }

    private static int spelledBy(String tape) {
        KilnCourses x = Kept.some();
        x.course(3);
        Due.feed(x, tape);
        return x.spelled(2);
    }

    @Promise(number = 23, words = "BAD;")
    static void spelledOfNoCourse() {
        Bound.ends(Bound.BAD, 0, 3, "spelled(c)", (x, v) -> x.spelled(v));
    }

    @Promise(number = 23, words = "STATE: there is none.")
    static void spelledOfACourseThatIsNone() {
        Bound.refused(Bound.STATE, "spelled(1)", x -> x.spelled(1));
        Due.is("with an empty tape, too", new KilnCourses().spelled(0), Bound.STATE);
    }

    @Promise(number = 24, words = "LEGS of COURSE b come behind those of COURSE a (also of itself): how many it has.")
    static void joinTo6Legs() {
        KilnCourses x = Kept.some();
        Due.is("4 and 1", x.join(0, 2), 5);
        Due.is("5 and 1", x.join(0, 2), 6);
        Due.holds("they are behind", Due.printed(x, 0).equals("low x3;mid/off/full x9;full;off;off/mid/low x2;off/mid/low x2"));
        Due.holds("b stays", Due.printed(x, 2).equals("off/mid/low x2"));
        Due.is("1 and itself", x.join(2, 2), 2);
        Due.is("2 and itself", x.join(2, 2), 4);
        KilnCourses y = new KilnCourses();
        Due.course(y, 0, "low;mid;full");
        Due.is("3 and itself", y.join(0, 0), 6);
    }

    @Promise(number = 24, words = "BAD;")
    static void joinOfNoCourse() {
        Bound.ends(Bound.BAD, 0, 3, "join(a, 2)", (x, v) -> x.join(v, 2));
        Bound.ends(Bound.BAD, 0, 3, "join(2, b)", (x, v) -> x.join(2, v));
    }

    @Promise(number = 24, words = "STATE: one of them there isn't;")
    static void joinOfACourseThatIsNone() {
        Bound.refused(Bound.STATE, "join(1, 2)", x -> x.join(1, 2));
        Bound.refused(Bound.STATE, "join(2, 1)", x -> x.join(2, 1));
        Bound.refused(Bound.STATE, "join(3, 3)", x -> x.join(3, 3));
    }

    @Promise(number = 24, words = "FULL: more than 6 (none comes).")
    static void joinToMoreThan6Legs() {
        Bound.refused(Bound.FULL, "join(0, 0)", x -> x.join(0, 0));
        KilnCourses x = Kept.some();
        Kept.course(x, 1, "low;mid;full");
        Due.is("4 and 3", x.join(0, 1), Bound.FULL);
        Due.is("3 and 4", x.join(1, 0), Bound.FULL);
        Due.is("none came to 0", x.leg(0, 4, 0), Bound.OUTSIDE);
        Due.is("none came to 1", x.leg(1, 3, 0), Bound.OUTSIDE);
    }

    @Promise(number = 25, words = "A COURSE is none any more: how many LEGS it had.")
    static void clearACourse() {
        KilnCourses x = Kept.some();
        Due.is("clear(0)", x.clear(0), 4);
        Due.is("courses", x.count(6), 0b0100);
        Due.is("clear(2)", x.clear(2), 1);
        Due.is("courses", x.count(6), 0);
        Due.is("it is none", x.fire(0, false), Bound.STATE);
    }

    @Promise(number = 25, words = "BAD;")
    static void clearOfNoCourse() {
        Bound.ends(Bound.BAD, 0, 3, "clear(c)", (x, v) -> x.clear(v));
    }

    @Promise(number = 25, words = "STATE: there is none.")
    static void clearOfACourseThatIsNone() {
        Bound.refused(Bound.STATE, "clear(1)", x -> x.clear(1));
        KilnCourses x = Kept.some();
        x.clear(2);
        Due.is("clear again", x.clear(2), Bound.STATE);
    }

    @Promise(number = 26, words = "A COURSE is FIRED truly, STRICT or not: how many STEPS went.")
    static void howManyStepsWent() {
        KilnCourses x = new KilnCourses();
        Due.course(x, 0, LONGEST);
        Due.is("the longest", x.fire(0, false), 54);
        Due.is("steps", x.count(2), 54);
        Due.is("strict without loads", x.fire(0, true), 54);
        Due.course(x, 1, "off");
        Due.is("the shortest", x.fire(1, true), 1);
        x.load(1, 9, 0);
        Due.heats(x, 20, 20, 20);
        Due.is("strict, trouble at once", x.fire(0, true), 1);
        x.anew(0);
        Due.heats(x, 20, 20, 20);
        Due.is("not strict, trouble at once", x.fire(0, false), 54);
    }

    @Promise(number = 26, words = "BAD;")
    static void fireOfNoCourse() {
        Bound.ends(Bound.BAD, 0, 3, "fire(c, false)", (x, v) -> x.fire(v, false));
        Bound.ends(Bound.BAD, 0, 3, "fire(c, true)", (x, v) -> x.fire(v, true));
    }

    @Promise(number = 26, words = "STATE: there is none, STEPS would be above 9999 (did all of it go).")
    static void fireOfACourseThatIsNoneOrTooLong() {
        Bound.refused(Bound.STATE, "fire(1, false)", x -> x.fire(1, false));
        Bound.refused(Bound.STATE, "fire(3, true)", x -> x.fire(3, true));
        for (int i = 0; i < 2; i++) {
            boolean strict = i == 1;
            KilnCourses x = new KilnCourses();
            Due.course(x, 0, "full x9;low x3");
            Steps.go(x, 9988);
            Due.is("12 from 9988", x.fire(0, strict), Bound.STATE);
            Due.is("none went", x.count(2) * 10 + x.count(1) + x.zone(0, 1), 99880);
            Due.course(x, 0, "full x9;low x2");
            Due.is("11 from 9988", x.fire(0, strict), 11);
            Due.is("steps", x.count(2), 9999);
            Due.course(x, 0, "off");
            Due.is("1 from 9999", x.fire(0, strict), Bound.STATE);
        }
    }

    /** A pot and a thin one that cracks in the second step; a brick keeps zone 1 slow. */
    private static KilnCourses troubled() {
        KilnCourses x = new KilnCourses();
        x.load(0, 1, 2);
        x.load(1, 9, 0);
        x.load(2, 9, 1);
        x.setting(1, 1);
        x.step(1);
        Due.course(x, 0, "low;full/off/off;full x2");
        Due.course(x, 1, "off x2");
        return x;
    }

    @Promise(number = 27, words = "Of a COURSE FIRED now, in thought, not STRICT: FUEL more (what 0), which STEP has the first TROUBLE (1; from 1; NONE)")
    static void theFirstTroubleIsFrom1() {
        KilnCourses x = troubled();
        Due.is("fuel more", x.tries(0, 0), 3 + 6 + 36);
        Due.is("trouble in the second step", x.tries(0, 1), 2);
        Due.is("no trouble", x.tries(1, 1), Bound.NONE);
        Due.is("no fuel", x.tries(1, 0), 0);
        Due.course(x, 2, "full");
        Due.is("trouble in the first step", x.tries(2, 1), 1);
        Due.is("it was a thought", x.count(1) * 10 + x.count(5), 10);
    }

    @Promise(number = 27, words = "the first LOAD by numbers that became SPOILED in it (2; NONE), how: 2 cracked, 3 slumped (3; 0: no TROUBLE)")
    static void theFirstLoadByNumbers() {
        KilnCourses x = troubled();
        Due.is("the thin one alone", x.tries(0, 2), 1);
        Due.is("cracked", x.tries(0, 3), 2);
        Due.is("no trouble", x.tries(1, 2), Bound.NONE);
        Due.is("no trouble", x.tries(1, 3), 0);
        for (int first = 0; first < 2; first++) {
            // In one step a pot slumps in zone 0, and a brick cracks in zone 2, which rises by 124.
            KilnCourses y = new KilnCourses();
            y.load(5, 1, 1);
            y.load(first == 0 ? 0 : 2, 1, first == 0 ? 0 : 2);
            y.load(first == 0 ? 2 : 0, 1, first == 0 ? 2 : 0);
            Due.heats(y, 1150, 1150, 800);
            Due.course(y, 0, "mid/off/full x2");
            Due.is("the first step", y.tries(0, 1), 1);
            Due.is("the first by numbers", y.tries(0, 2), 1);
            Due.is("how", y.tries(0, 3), first == 0 ? 3 : 2);
            Due.is("both are spoiled", y.tries(0, 4), 0b110);
        }
    }

    @Promise(number = 27, words = "behind all: SPOILED LOADS (4; bits), done ones (5; bits), HEAT of ZONE 0, 1, 2 (6 .. 8).")
    static void behindAllOfIt() {
        KilnCourses x = troubled();
        int[] behind = {x.tries(0, 4), x.tries(0, 5), x.tries(0, 6), x.tries(0, 7), x.tries(0, 8)};
        Due.is("the pot cracks later", behind[0], 0b011);
        x.fire(0, false);
        Due.is("spoiled", behind[0], x.count(5));
        Due.is("done", behind[1], x.count(4));
        for (int zone = 0; zone < 3; zone++) {
            Due.is("heat of zone " + zone, behind[2 + zone], x.zone(zone, 0));
        }
        KilnCourses y = Kept.some();
        Kept.course(y, 1, "full/full/full");
        Due.is("spoiled ones ahead are there", y.tries(1, 4), 0b00011);
        Due.is("done ones ahead are there", y.tries(1, 5), 0b01100);
    }

    @Promise(number = 27, words = "BAD;")
    static void triesOfNoCourseOrWhat() {
        Bound.ends(Bound.BAD, 0, 3, "tries(c, 0)", (x, v) -> x.tries(v, 0));
        Bound.ends(Bound.BAD, 0, 8, "tries(0, what)", (x, v) -> x.tries(0, v));
    }

    @Promise(number = 27, words = "STATE: there is none.")
    static void triesOfACourseThatIsNone() {
        for (int what = 0; what <= 8; what++) {
            int asked = what;
            Bound.refused(Bound.STATE, "tries(1, " + what + ")", x -> x.tries(1, asked));
        }
    }
}
