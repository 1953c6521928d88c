/** Promises 35 to 41: the image, loads by a sheet, counts, sheets. */
final class BoundsOfHost {
    private BoundsOfHost() {
    }

    @Promise(number = 35, words = "AN IMAGE is kept: how many LOADS.")
    static void imageOfNoneAndOf8Loads() {
        KilnCourses x = new KilnCourses();
        Due.is("of none", x.image(), 0);
        for (int i = 0; i < 8; i++) {
            x.load(0, 1 + i, 0);
        }
        Due.is("of 8, in place of the other", x.image(), 8);
        x.take();
        Due.is("back", x.back(), 8);
        Due.is("the eighth", x.of(7, 1), 8);
    }

    @Promise(number = 36, words = "All that it keeps is as in THE IMAGE: how many LOADS.")
    static void backAgainAndAgain() {
        KilnCourses x = Kept.some();
        Due.is("back", x.back(), 3);
        String once = Kept.seen(x);
        KilnCourses y = Kept.some();
        y.back();
        y.step(9);
        Due.heats(y, 1, 2, 3);
        y.load(0, 1, 0);
        y.clear(0);
        Due.is("back again", y.back(), 3);
        Due.holds("as the first time", Kept.seen(y).equals(once));
    }

    @Promise(number = 36, words = "All that it keeps is as in THE IMAGE")
    static void whatItDoesNotKeepStays() {
        KilnCourses x = Kept.some();
        x.course(1);
        Due.feed(x, "abc");
        Kept.row(x, 2, 0, 20);
        x.sheet(0, -1, 0);
        x.back();
        Due.is("bytes of the tape", x.count(3), 3);
        Due.is("a row that is new since", x.put(2, 0, 1), 1);
        Due.is("a sheet that is missing since", x.put(0, 0, 0), Bound.MISSING);
        Due.is("a row that stood", x.put(1, 5, 0), 1);
    }

    @Promise(number = 36, words = "STATE: there is none.")
    static void backWithoutAnImage() {
        KilnCourses x = new KilnCourses();
        x.load(0, 1, 0);
        x.heat(0, 500);
        Due.is("back", x.back(), Bound.STATE);
        Due.is("nothing changes", x.zone(0, 0) * 10 + x.count(0), 5001);
        x.image();
        Due.is("then there is one", x.back(), 1);
    }

    @Promise(number = 37, words = "LOADS by a SHEET that is taken for one of a sort: from a place on, three a LOAD (KIND, SIZE, ZONE), n of them (0 .. 8): how many came (others are left out).")
    static void from0To8LoadsByASheet() {
        KilnCourses x = new KilnCourses();
        x.sheet(0, 1, 40);
        for (int i = 0; i < 8; i++) {
            x.put(0, 16 + 3 * i, i % 6);
            x.put(0, 17 + 3 * i, 1 + i);
            x.put(0, 18 + 3 * i, i % 3);
        }
        Due.is("none", x.loads(0, 1, 16, 0), 0);
        Due.is("none came", x.count(0), 0);
        Due.is("8 to the end of the row", x.loads(0, 1, 16, 8), 8);
        for (int i = 0; i < 8; i++) {
            Due.is("load " + i, x.of(i, 0) * 100 + x.of(i, 1) * 10 + x.of(i, 2), i % 6 * 100 + (1 + i) * 10 + i % 3);
        }
        Due.is("no room for more: left out", x.loads(0, 1, 16, 8), 0);
        x.take();
        Due.is("room for one", x.loads(0, 1, 16, 8), 1);
        Due.is("it is the first", x.of(7, 1), 1);
    }

    @Promise(number = 37, words = "how many came (others are left out).")
    static void loadsThatAreNoneAreLeftOut() {
        int[][] none = {{6, 1, 0}, {-1, 1, 0}, {0, 0, 0}, {0, 10, 0}, {0, 1, 3}, {0, 1, -1}};
        for (int[] row : none) {
            KilnCourses x = new KilnCourses();
            Kept.row(x, 0, 1, row[0], row[1], row[2], 5, 9, 2);
            Due.is("the second alone", x.loads(0, 1, 0, 2), 1);
            Due.is("count", x.count(0), 1);
            Due.is("it is load 0", x.of(0, 0) * 100 + x.of(0, 1) * 10 + x.of(0, 2), 592);
        }
    }

    @Promise(number = 37, words = "BAD: no such SHEET, sort, n;")
    static void loadsOfNoSuch() {
        Bound.ends(Bound.BAD, 0, 3, "loads(sheet, 0, 0, 1)", (x, v) -> x.loads(v, 0, 0, 1));
        Bound.ends(Bound.BAD, 0, 1, "loads(0, sort, 0, 1)", (x, v) -> x.loads(0, v, 0, 1));
        Bound.ends(Bound.BAD, 0, 8, "loads(0, 0, 0, n)", (x, v) -> x.loads(0, 0, 0, v));
    }

    @Promise(number = 37, words = "-11;")
    static void loadsByAMissingSheet() {
        Bound.refused(Bound.MISSING, "loads(2, 0, 0, 1)", x -> x.loads(2, 0, 0, 1));
        Bound.refused(Bound.MISSING, "loads(2, 1, 0, 1)", x -> x.loads(2, 1, 0, 1));
        Bound.refused(Bound.MISSING, "loads(2, 0, 0, 0)", x -> x.loads(2, 0, 0, 0));
    }

    @Promise(number = 37, words = "-13;")
    static void loadsByASheetOfAnotherSort() {
        Bound.refused(Bound.OTHER_SORT, "loads(0, 1, 0, 1)", x -> x.loads(0, 1, 0, 1));
        Bound.refused(Bound.OTHER_SORT, "loads(1, 0, 0, 1)", x -> x.loads(1, 0, 0, 1));
        Bound.refused(Bound.OTHER_SORT, "loads(1, 0, 0, 0)", x -> x.loads(1, 0, 0, 0));
    }

    @Promise(number = 37, words = "-12: what stood ahead came.")
    static void loadsBeyondTheEnd() {
        KilnCourses x = Kept.some();
        Due.is("two of three stand there", x.loads(1, 1, 0, 3), Bound.OUTSIDE);
        Due.is("they came", x.count(0), Kept.LOADS + 2);
        Due.is("the first", x.of(5, 0) * 100 + x.of(5, 1) * 10 + x.of(5, 2), 392);
        Due.is("the second", x.of(6, 0) * 100 + x.of(6, 1) * 10 + x.of(6, 2), 11);
        KilnCourses y = Kept.some();
        Due.is("two places of three stand there", y.loads(1, 1, 1, 2), Bound.OUTSIDE);
        Due.is("none of these came", y.count(0), Kept.LOADS);
        Bound.refused(Bound.OUTSIDE, "one place of three", z -> z.loads(1, 1, 5, 1));
        Bound.refused(Bound.OUTSIDE, "two places of three", z -> z.loads(1, 1, 4, 1));
        Bound.refused(Bound.OUTSIDE, "from the end", z -> z.loads(1, 1, 6, 1));
        Bound.refused(Bound.OUTSIDE, "from behind the end", z -> z.loads(1, 1, 7, 1));
        Bound.refused(Bound.OUTSIDE, "from -1", z -> z.loads(1, 1, -1, 1));
        Bound.refused(Bound.OUTSIDE, "from -3, three of them", z -> z.loads(1, 1, -3, 3));
        Bound.refused(Bound.OUTSIDE, "from the least", z -> z.loads(1, 1, Integer.MIN_VALUE, 8));
        Bound.refused(Bound.OUTSIDE, "from the most", z -> z.loads(1, 1, Integer.MAX_VALUE, 8));
        Bound.refused(Bound.OUTSIDE, "from two less than the most", z -> z.loads(1, 1, Integer.MAX_VALUE - 2, 8));
        KilnCourses full = Kept.some();
        Due.is("as many as there is room for", full.loads(0, 0, 0, 2), 2);
        Due.is("and one", full.load(0, 1, 0), 7);
        Due.is("a place outside is one without room, too", full.loads(0, 0, 0, 3), Bound.OUTSIDE);
        Due.is("of none no place is read", full.loads(0, 0, 99, 0), 0);
    }

    @Promise(number = 38, words = "0 LOADS, 1 FUEL, 2 STEPS, 3 bytes of THE TAPE; bits: 4 done LOADS, 5 SPOILED ones, 6 COURSES that there are.")
    static void countsOfSomeAndOfNone() {
        KilnCourses x = Kept.some();
        int[] due = {5, 38, 4, 14, 0b01100, 0b00011, 0b0101};
        for (int what = 0; what <= 6; what++) {
            Due.is("count(" + what + ")", x.count(what), due[what]);
        }
        Kept.course(x, 1, "off");
        for (int c = 0; c <= 3; c++) {
            Due.course(x, c, "off");
        }
        Due.is("all courses", x.count(6), 0b1111);
        Due.feed(x, " ".repeat(120));
        Due.is("a full tape", x.count(3), 120);
        for (int load = 0; load < Kept.LOADS; load++) {
            x.anew(load);
        }
        Due.is("no done ones", x.count(4), 0);
        Due.is("no spoiled ones", x.count(5), 0);
    }

    @Promise(number = 38, words = "BAD.")
    static void countOfNoSuch() {
        Bound.ends(Bound.BAD, 0, 6, "count(what)", (x, v) -> x.count(v));
    }

    @Promise(number = 39, words = "A SHEET becomes a row of n of a sort, all 0")
    static void aRowIsAll0() {
        KilnCourses x = new KilnCourses();
        Due.heats(x, 0, 0, 0);
        for (int sort = 0; sort <= 1; sort++) {
            Kept.row(x, 0, 1 - sort, 7, 7, 7, 7, 7, 7, 7, 7, 7, 7, 7, 7);
            Due.is("a row of 12", x.sheet(0, sort, 12), 1);
            // All is at 0 and stays so: what is told is 0, twelve times.
            Due.is("all 0", x.tells(0, 0, 0), Bound.NONE);
            Kept.row(x, 0, sort, 7, 7, 7);
            x.sheet(0, sort, 1);
            x.sheet(0, sort, 3);
            Due.is("all 0 behind a shorter one", x.tells(0, 0, 0), Bound.NONE);
            Kept.row(x, 0, sort, 7, 7, 7);
            x.sheet(0, -1, 0);
            x.sheet(0, sort, 3);
            Due.is("all 0 behind a missing one", x.tells(0, 0, 0), Bound.NONE);
        }
    }

    @Promise(number = 39, words = "or missing (sort -1: n does not matter): 1.")
    static void aMissingOneWhateverNIs() {
        int[] sizes = {0, 40, 41, -1, Integer.MIN_VALUE, Integer.MAX_VALUE};
        for (int n : sizes) {
            KilnCourses x = Kept.some();
            Due.is("sheet(0, -1, " + n + ")", x.sheet(0, -1, n), 1);
            Due.is("it is missing", x.put(0, 0, 0), Bound.MISSING);
            Due.is("missing again", x.sheet(0, -1, n), 1);
        }
    }

    @Promise(number = 39, words = "BAD: no such SHEET, sort; n above 40;")
    static void sheetOfNoSuch() {
        Bound.ends(Bound.BAD, 0, 3, "sheet(sheet, 0, 1)", (x, v) -> x.sheet(v, 0, 1));
        Bound.ends(Bound.BAD, -1, 1, "sheet(0, sort, 1)", (x, v) -> x.sheet(0, v, 1));
        Bound.refused(Bound.BAD, "sheet(0, 0, 41)", x -> x.sheet(0, 0, 41));
        Bound.refused(Bound.BAD, "sheet(0, 1, the most)", x -> x.sheet(0, 1, Integer.MAX_VALUE));
        Bound.refused(Bound.BAD, "sheet(4, -1, 0)", x -> x.sheet(4, -1, 0));
        for (int sort = 0; sort <= 1; sort++) {
            KilnCourses x = new KilnCourses();
            Due.is("40", x.sheet(3, sort, 40), 1);
            Due.is("its last item", x.put(3, 39, 1), 1);
            Due.is("behind it", x.put(3, 40, 1), Bound.OUTSIDE);
        }
    }

    @Promise(number = 39, words = "-14.")
    static void aSizeBelow0() {
        Bound.refused(Bound.SIZE_BELOW_0, "sheet(0, 0, -1)", x -> x.sheet(0, 0, -1));
        Bound.refused(Bound.SIZE_BELOW_0, "sheet(1, 1, -1)", x -> x.sheet(1, 1, -1));
        Bound.refused(Bound.SIZE_BELOW_0, "sheet(2, 1, the least)", x -> x.sheet(2, 1, Integer.MIN_VALUE));
        KilnCourses x = new KilnCourses();
        Due.is("0 is a size", x.sheet(0, 0, 0), 1);
        Due.is("without items", x.put(0, 0, 0), Bound.OUTSIDE);
    }

    @Promise(number = 40, words = "Item i of a SHEET becomes v (of shorts its lowest 16 bits): 1.")
    static void shortsHave16Bits() {
        int[][] rows = {{20, 1}, {65536 + 20, 1}, {-65536 + 20, 1}, {0x7FFF0014, 1}, {32768 + 20, 0}, {-20, 0}};
        for (int[] row : rows) {
            KilnCourses x = new KilnCourses();
            x.sheet(0, 0, 1);
            x.sheet(1, 1, 1);
            Due.is("put", x.put(0, 0, row[0]), 1);
            Due.is("put", x.put(1, 0, row[0]), 1);
            Due.is("a short of " + row[0] + " is 20", x.tells(0, 0, 0) == Bound.NONE ? 1 : 0, row[1]);
            Due.is("an int of " + row[0] + " is 20", x.tells(1, 0, 0) == Bound.NONE ? 1 : 0, row[0] == 20 ? 1 : 0);
        }
        // A kind of 65535 is -1 as a short: neither is a kind; a size of 65537 is 1.
        KilnCourses x = new KilnCourses();
        Kept.row(x, 0, 0, 65536, 65537, 65538);
        Due.is("a load by them", x.loads(0, 0, 0, 1), 1);
        Due.is("kind 0, size 1, zone 2", x.of(0, 0) * 100 + x.of(0, 1) * 10 + x.of(0, 2), 12);
    }

    @Promise(number = 40, words = "BAD: no such SHEET;")
    static void putToNoSheet() {
        Bound.ends(Bound.BAD, 0, 3, "put(sheet, 0, 0)", (x, v) -> x.put(v, 0, 0));
    }

    @Promise(number = 40, words = "-11;")
    static void putToAMissingSheet() {
        Bound.refused(Bound.MISSING, "put(2, 0, 0)", x -> x.put(2, 0, 0));
    }

    @Promise(number = 40, words = "-12.")
    static void putOutside() {
        Bound.ends(Bound.OUTSIDE, 0, 5, "put(0, i, 3)", (x, v) -> x.put(0, v, 3));
        KilnCourses x = new KilnCourses();
        x.sheet(0, 0, 0);
        Due.is("an empty row", x.put(0, 0, 1), Bound.OUTSIDE);
    }

    @Promise(number = 41, words = "n numbers of a SHEET, from item i on, come to another one's item j on (as they were): n.")
    static void copyAsTheyWere() {
        // Heats of 0 .. 59 stay so when all is off and even: a row is told by them.
        copied("onto itself, forward", 0, 0, 0, 1, 5, 1, 1, 2, 3, 4, 5);
        copied("onto itself, backward", 0, 1, 0, 0, 5, 2, 3, 4, 5, 6, 6);
        copied("onto itself, in place", 0, 0, 0, 0, 6, 1, 2, 3, 4, 5, 6);
        copied("from another one, all", 1, 0, 0, 0, 6, 11, 12, 13, 14, 15, 16);
        copied("from another one, the last to the first", 1, 5, 0, 0, 1, 16, 2, 3, 4, 5, 6);
        copied("from another one, the first to the last", 1, 0, 0, 5, 1, 1, 2, 3, 4, 5, 11);
        copied("none", 1, 0, 0, 0, 0, 1, 2, 3, 4, 5, 6);
        copied("none at both ends", 1, 6, 0, 6, 0, 1, 2, 3, 4, 5, 6);
    }

    private static void copied(String when, int sheet, int i, int other, int j, int n, int... due) {
        for (int sort = 0; sort <= 1; sort++) {
            KilnCourses x = new KilnCourses();
            Kept.row(x, 0, sort, 1, 2, 3, 4, 5, 6);
            Kept.row(x, 1, sort, 11, 12, 13, 14, 15, 16);
            Due.is(when, x.copy(sheet, i, other, j, n), n);
            for (int k = 0; k < due.length; k++) {
                x.sheet(2, sort, 1);
                x.copy(other, k, 2, 0, 1);
                Due.heats(x, due[k], due[k], due[k]);
                Due.is(when + ": item " + k + " is " + due[k], x.tells(2, 0, 0), Bound.NONE);
            }
        }
    }

    @Promise(number = 41, words = "BAD: no such SHEETS;")
    static void copyOfNoSheets() {
        Bound.ends(Bound.BAD, 0, 3, "copy(sheet, 0, 1, 0, 0)", (x, v) -> x.copy(v, 0, 1, 0, 0));
        Bound.ends(Bound.BAD, 0, 3, "copy(1, 0, other, 0, 0)", (x, v) -> x.copy(1, 0, v, 0, 0));
    }

    @Promise(number = 41, words = "-11: either is missing;")
    static void copyWithAMissingOne() {
        Bound.refused(Bound.MISSING, "from a missing one", x -> x.copy(2, 0, 0, 0, 1));
        Bound.refused(Bound.MISSING, "to a missing one", x -> x.copy(0, 0, 2, 0, 1));
        Bound.refused(Bound.MISSING, "none from a missing one", x -> x.copy(2, 0, 0, 0, 0));
        Bound.refused(Bound.MISSING, "a missing one onto itself", x -> x.copy(2, 0, 2, 0, 0));
    }

    @Promise(number = 41, words = "-13: they are of unlike sorts;")
    static void copyBetweenUnlikeSorts() {
        Bound.refused(Bound.OTHER_SORT, "ints to shorts", x -> x.copy(1, 0, 0, 0, 1));
        Bound.refused(Bound.OTHER_SORT, "shorts to ints", x -> x.copy(0, 0, 1, 0, 1));
        Bound.refused(Bound.OTHER_SORT, "none, too", x -> x.copy(0, 0, 1, 0, 0));
    }

    @Promise(number = 41, words = "-12 (also with n below 0).")
    static void copyOutside() {
        // Sheet 1 has 6 ints, sheet 3 has 3.
        Due.is("just all of them", Kept.some().copy(1, 3, 3, 0, 3), 3);
        Bound.refused(Bound.OUTSIDE, "one too many here", x -> x.copy(1, 4, 3, 0, 3));
        Bound.refused(Bound.OUTSIDE, "one too many there", x -> x.copy(1, 0, 3, 1, 3));
        Bound.refused(Bound.OUTSIDE, "more than there are", x -> x.copy(3, 0, 1, 0, 4));
        Bound.refused(Bound.OUTSIDE, "i -1", x -> x.copy(1, -1, 3, 0, 1));
        Bound.refused(Bound.OUTSIDE, "j -1", x -> x.copy(1, 0, 3, -1, 1));
        Bound.refused(Bound.OUTSIDE, "i at the end", x -> x.copy(1, 6, 3, 0, 1));
        Bound.refused(Bound.OUTSIDE, "j at the end", x -> x.copy(1, 0, 3, 3, 1));
        Bound.refused(Bound.OUTSIDE, "none, i behind the end", x -> x.copy(1, 7, 3, 0, 0));
        Bound.refused(Bound.OUTSIDE, "none, j behind the end", x -> x.copy(1, 0, 3, 4, 0));
        Bound.refused(Bound.OUTSIDE, "none, i -1", x -> x.copy(1, -1, 3, 0, 0));
        Bound.refused(Bound.OUTSIDE, "none, j -1", x -> x.copy(1, 0, 3, -1, 0));
        Bound.refused(Bound.OUTSIDE, "n -1", x -> x.copy(1, 1, 3, 1, -1));
        Bound.refused(Bound.OUTSIDE, "the least n", x -> x.copy(1, 0, 3, 0, Integer.MIN_VALUE));
        Bound.refused(Bound.OUTSIDE, "i and n beyond an int", x -> x.copy(1, 1, 3, 0, Integer.MAX_VALUE));
        Bound.refused(Bound.OUTSIDE, "j and n beyond an int", x -> x.copy(1, 0, 3, Integer.MAX_VALUE, Integer.MAX_VALUE));
        Bound.refused(Bound.OUTSIDE, "both and n beyond an int", x -> x.copy(1, 1, 3, 1, Integer.MAX_VALUE));
        Bound.refused(Bound.OUTSIDE, "the most of both and n", x -> x.copy(1, Integer.MAX_VALUE, 3, Integer.MAX_VALUE, Integer.MAX_VALUE));
        Bound.refused(Bound.OUTSIDE, "the most of both", x -> x.copy(1, Integer.MAX_VALUE, 3, Integer.MAX_VALUE, 1));
        Bound.refused(Bound.OUTSIDE, "the least i", x -> x.copy(1, Integer.MIN_VALUE, 3, 0, Integer.MAX_VALUE));
    }
}
