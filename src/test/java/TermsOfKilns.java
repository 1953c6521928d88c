/** The terms' first part: zones, settings, loads and their kinds, a step, refusals. */
final class TermsOfKilns {
    private static final int POT = 0, THIN = 1, BRICK = 2, GLAZED = 3, HOLLOW = 4, LINED = 5;
    private static final int RISES = 5, FALLS = 6, TOP = 7, NEED = 8, MELTS = 9, MASS = 10;

    private TermsOfKilns() {
    }

    private static void heatsAre(KilnCourses x, int first, int second, int third) {
        Due.is("heat of zone 0", x.zone(0, 0), first);
        Due.is("heat of zone 1", x.zone(1, 0), second);
        Due.is("heat of zone 2", x.zone(2, 0), third);
    }

    /** What a load of a kind has, at sizes 1, 2 and 9. */
    private static void has(int kind, int what, int ofSize1, int ofSize2, int ofSize9) {
        int[] sizes = {1, 2, 9};
        int[] due = {ofSize1, ofSize2, ofSize9};
        KilnCourses x = new KilnCourses();
        for (int i = 0; i < sizes.length; i++) {
            x.load(kind, sizes[i], 0);
            Due.is("kind " + kind + " of size " + sizes[i] + ", what " + what, x.of(i, what), due[i]);
        }
    }

    @Promise(number = 0, words = "\"a by b\" is a divided by b, cut toward 0.")
    static void quotientsBelow0AreCutToward0() {
        KilnCourses x = new KilnCourses();
        Due.heats(x, 27, 20, 13);
        x.step(1);
        heatsAre(x, 27, 20, 13);
        Due.heats(x, 29, 20, 11);
        x.step(1);
        heatsAre(x, 28, 20, 12);
        Due.heats(x, 11, 20, 29);
        x.step(1);
        heatsAre(x, 12, 20, 28);
    }

    @Promise(number = 0, words = "An object is used for at most 512 calls after it has been made")
    static void the512thCallIsAnswered() {
        KilnCourses x = new KilnCourses();
        x.load(LINED, 1, 1);
        Due.heats(x, 1100, 1100, 1100);
        int fuel = x.plan(4, 6, 0);
        for (int call = 6; call <= 511; call++) {
            x.plan(4, 6, 0);
        }
        Due.is("the 512th call", x.plan(4, 6, 0), fuel);
        Due.is("it is a plan", fuel, 0);
    }

    @Promise(number = 0, words = "ZONES 0 .. 2 (0 and 1, 1 and 2 are beside each other)")
    static void zones0And2AreNotBesideEachOther() {
        KilnCourses x = new KilnCourses();
        Due.heats(x, 820, 20, 20);
        x.step(1);
        heatsAre(x, 820 - 100 - 20, 120, 20);
        Due.heats(x, 20, 20, 820);
        x.step(1);
        heatsAre(x, 20, 120, 820 - 100 - 20);
        Due.heats(x, 20, 820, 20);
        x.step(1);
        heatsAre(x, 120, 820 - 200 - 20, 120);
    }

    @Promise(number = 0, words = "HEAT (0 .. 1300; 20 at first)")
    static void heatIs20AtFirst() {
        heatsAre(new KilnCourses(), 20, 20, 20);
    }

    @Promise(number = 0, words = "a SETTING: 0 off (at first), 1 low, 2 mid, 3 full.")
    static void settingsAreOffAtFirst() {
        KilnCourses x = new KilnCourses();
        for (int zone = 0; zone < 3; zone++) {
            Due.is("setting of zone " + zone, x.zone(zone, 1), 0);
        }
    }

    @Promise(number = 0, words = "A SETTING GIVES, at a HEAT h: off 0; low 60 less h by 20; mid 120 less h by 15; full 200 less h by 10; 0 at least.")
    static void aSettingGives0AtLeast() {
        KilnCourses x = new KilnCourses();
        Due.is("off at 0", x.gives(0, 0), 0);
        Due.is("off at 1300", x.gives(0, 1300), 0);
        Due.is("low at 1199", x.gives(1, 1199), 1);
        Due.is("low at 1200", x.gives(1, 1200), 0);
        Due.is("low at 1219", x.gives(1, 1219), 0);
        Due.is("low at 1220", x.gives(1, 1220), 0);
        Due.is("low at 1300", x.gives(1, 1300), 0);
        Due.is("mid at 1300", x.gives(2, 1300), 120 - 86);
        Due.is("full at 1300", x.gives(3, 1300), 200 - 130);
        Due.heats(x, 1300, 1300, 1300);
        Due.settings(x, 1, 1, 1);
        x.step(1);
        heatsAre(x, 1300 - 32, 1300 - 32, 1300 - 32);
    }

    @Promise(number = 0, words = "It BURNS: off 0; low 1; mid 3; full 6.")
    static void offBurnsNothing() {
        int[] burns = {0, 1, 3, 6};
        for (int s = 0; s < 4; s++) {
            KilnCourses x = new KilnCourses();
            x.setting(2, s);
            x.step(1);
            Due.is("fuel by setting " + s, x.count(1), burns[s]);
        }
    }

    @Promise(number = 0, words = "LOADS (8 at most), numbered from 0 as they come")
    static void loadsAre8AtMost() {
        KilnCourses x = new KilnCourses();
        for (int i = 0; i < 8; i++) {
            Due.is("load", x.load(POT, 1 + i, 0), i);
        }
        Due.is("a ninth", x.load(POT, 1, 0), Bound.FULL);
        for (int i = 0; i < 8; i++) {
            Due.is("size of load " + i, x.of(i, 1), 1 + i);
        }
    }

    @Promise(number = 0, words = "a SIZE (1 .. 9)")
    static void sizesAre1To9() {
        KilnCourses x = new KilnCourses();
        Due.is("size 0", x.load(POT, 0, 0), Bound.BAD);
        Due.is("size 1", x.load(POT, 1, 0), 0);
        Due.is("size 9", x.load(POT, 9, 0), 1);
        Due.is("size 10", x.load(POT, 10, 0), Bound.BAD);
    }

    @Promise(number = 0, words = "SOAKED (0 .. 99; 0 as one comes)")
    static void soakedIs0AsOneComes() {
        KilnCourses x = hot(LINED, 1, 2);
        x.take();
        x.load(LINED, 1, 0);
        Due.is("soaked of one with a number that was another's", x.of(0, 3), 0);
    }

    @Promise(number = 0, words = "a STATE: 0 raw (as one comes), 1 done, 2 cracked, 3 slumped")
    static void aLoadComesRaw() {
        KilnCourses x = hot(LINED, 1, 2);
        Due.is("state", x.of(0, 4), 1);
        x.take();
        x.load(LINED, 1, 0);
        Due.is("state of one with a number that was another's", x.of(0, 4), 0);
    }

    /** A load in zone 0 behind so many steps at 1300. */
    private static KilnCourses hot(int kind, int size, int steps) {
        KilnCourses x = new KilnCourses();
        x.load(kind, size, 0);
        Due.heats(x, 1300, 1300, 1300);
        Due.settings(x, 3, 3, 3);
        x.step(steps);
        return x;
    }

    @Promise(number = 0, words = "SPOILED: cracked or slumped.")
    static void crackedAndSlumpedOnesAreSpoiledAndNoOthers() {
        KilnCourses x = Kept.some();
        int[] states = {Way.SLUMPED, Way.CRACKED, Way.DONE, Way.DONE, Way.RAW};
        for (int load = 0; load < Kept.LOADS; load++) {
            Due.is("state of " + load, x.of(load, 4), states[load]);
        }
        Due.is("spoiled ones", x.count(5), 0b00011);
    }

    @Promise(number = 0, words = "KINDS (what isn't told is as of the KIND above)")
    static void whatIsNotToldIsAsOfTheKindAbove() {
        has(THIN, FALLS, 80, 80, 80);
        has(THIN, TOP, 800, 800, 800);
        has(THIN, NEED, 2, 2, 2);
        has(BRICK, RISES, 120, 120, 120);
        has(GLAZED, NEED, 2, 2, 2);
        has(GLAZED, MASS, 0, 1, 4);
        has(HOLLOW, FALLS, 40, 40, 40);
        has(HOLLOW, TOP, 900, 900, 900);
        has(HOLLOW, MASS, 2, 4, 18);
        has(LINED, RISES, 112, 104, 48);
        has(LINED, TOP, 1000, 1000, 1000);
        has(LINED, NEED, 2, 2, 2);
        has(LINED, MASS, 0, 1, 4);
    }

    @Promise(number = 0, words = "0 POT: RISES 120; FALLS 80; TOP 800; NEED 2; MELTS 300 more than TOP (of its own KIND); MASS SIZE.")
    static void meltsIs300MoreThanTopOfItsOwnKind() {
        int[] melts = {1100, 1100, 1200, 1300, 1200};
        for (int kind = POT; kind <= HOLLOW; kind++) {
            has(kind, MELTS, melts[kind], melts[kind], melts[kind]);
        }
        has(POT, RISES, 120, 120, 120);
        has(POT, FALLS, 80, 80, 80);
        has(POT, TOP, 800, 800, 800);
        has(POT, NEED, 2, 2, 2);
        has(POT, MASS, 1, 2, 9);
    }

    @Promise(number = 0, words = "1 THIN under POT: RISES 8 times SIZE less than a POT; MASS half of a POT's (by 2).")
    static void aThinOneOfTheLeastAndTheGreatestSize() {
        has(THIN, RISES, 112, 104, 48);
        has(THIN, MASS, 0, 1, 4);
    }

    @Promise(number = 0, words = "2 BRICK under POT: FALLS half of a POT's; TOP 100 more than a POT; NEED SIZE by 2 more than a POT; MASS twice a POT's.")
    static void aBrickOfTheLeastAndTheGreatestSize() {
        has(BRICK, FALLS, 40, 40, 40);
        has(BRICK, TOP, 900, 900, 900);
        has(BRICK, NEED, 2, 3, 6);
        has(BRICK, MASS, 2, 4, 18);
    }

    @Promise(number = 0, words = "3 GLAZED under THIN: RISES as a THIN one, but 30 less, if h is 600 or more; FALLS 20 less than a THIN one; TOP 200 more than a THIN one.")
    static void aGlazedOneFrom599AndFrom600() {
        KilnCourses x = new KilnCourses();
        x.load(GLAZED, 1, 0);
        x.load(GLAZED, 9, 0);
        Due.is("size 1 from 599", x.rises(0, 599), 112);
        Due.is("size 1 from 600", x.rises(0, 600), 82);
        Due.is("size 9 from 599", x.rises(1, 599), 48);
        Due.is("size 9 from 600", x.rises(1, 600), 18);
        has(GLAZED, FALLS, 60, 60, 60);
        has(GLAZED, TOP, 1000, 1000, 1000);
    }

    @Promise(number = 0, words = "4 HOLLOW under BRICK: RISES a third (by 3) of a BRICK's, if h is below 200, else as a BRICK; NEED 1 less than a BRICK.")
    static void aHollowOneFrom199AndFrom200() {
        KilnCourses x = new KilnCourses();
        x.load(HOLLOW, 9, 0);
        Due.is("from 0", x.rises(0, 0), 40);
        Due.is("from 199", x.rises(0, 199), 40);
        Due.is("from 200", x.rises(0, 200), 120);
        Due.is("from 1300", x.rises(0, 1300), 120);
        has(HOLLOW, NEED, 1, 2, 5);
    }

    @Promise(number = 0, words = "5 LINED under GLAZED: FALLS 20 more than a GLAZED one; MELTS 200 more than a GLAZED one.")
    static void aLinedOneNeverSlumps() {
        has(LINED, FALLS, 80, 80, 80);
        has(LINED, MELTS, 1500, 1500, 1500);
        KilnCourses x = hot(LINED, 9, 60);
        Due.is("behind 60 steps at 1300", x.of(0, 4), 1);
    }

    @Promise(number = 0, words = "(MASS of a ZONE: those of all LOADS in it, SPOILED ones too, together.)")
    static void massOfAZone() {
        KilnCourses x = new KilnCourses();
        Due.is("without loads", x.zone(0, 2), 0);
        x.load(POT, 5, 0);
        x.load(BRICK, 9, 0);
        x.load(THIN, 9, 0);
        x.load(POT, 9, 1);
        Due.is("together", x.zone(0, 2), 5 + 18 + 4);
        Due.heats(x, 1300, 1300, 1300);
        x.step(1);
        Due.is("spoiled", x.count(5), 0b1111);
        Due.is("spoiled ones too", x.zone(0, 2), 5 + 18 + 4);
        x.move(3, 0);
        Due.is("and one more of them", x.zone(0, 2), 5 + 18 + 4 + 9);
        x.take();
        Due.is("and one less", x.zone(0, 2), 5 + 18 + 4);
    }

    @Promise(number = 0, words = "MASS counts SPOILED LOADS, too.")
    static void spoiledLoadsSlowAStepStill() {
        KilnCourses x = hot(POT, 9, 1);
        Due.is("spoiled", x.count(5), 1);
        Due.heats(x, 20, 20, 20);
        x.step(1);
        Due.is("full, by 10 and 9", x.zone(0, 0), 20 + 1980 / 19);
    }

    @Promise(number = 0, words = "A STEP: of all ZONES by HEATS as they are ahead of it: HEAT becomes HEAT and")
    static void aStepIsByHeatsAheadOfIt() {
        KilnCourses x = new KilnCourses();
        Due.heats(x, 100, 500, 900);
        x.step(1);
        heatsAre(x, 100 + 50 - 2, 500 - 50 + 50 - 12, 900 - 50 - 22);
    }

    @Promise(number = 0, words = "(what its SETTING GIVES at it, times 10, by (10 and MASS of the ZONE, together))")
    static void whatASettingGivesIsCutOnceByMass() {
        KilnCourses x = new KilnCourses();
        x.load(POT, 1, 0);
        for (int i = 0; i < 7; i++) {
            x.load(BRICK, 9, 1);
        }
        Due.settings(x, 1, 3, 1);
        x.step(1);
        heatsAre(x, 20 + 590 / 11, 20 + 1980 / 136, 20 + 59);
    }

    @Promise(number = 0, words = "and of each ZONE beside it ((its HEAT less this one's) by 8)")
    static void eachZoneBesideItIsCutByItself() {
        int[][] heats = {{24, 20, 24, 20}, {27, 20, 27, 20}, {28, 20, 28, 22}, {28, 20, 20, 21}, {27, 20, 12, 19}, {13, 20, 13, 20}, {12, 20, 12, 18}, {35, 20, 5, 20}};
        for (int[] row : heats) {
            KilnCourses x = new KilnCourses();
            Due.heats(x, row[0], row[1], row[2]);
            x.step(1);
            Due.is("zone 1 between " + row[0] + " and " + row[2], x.zone(1, 0), row[3]);
        }
    }

    @Promise(number = 0, words = "less ((HEAT less 20) by 40)")
    static void theRoomIsFeltFrom60On() {
        int[] from = {0, 19, 20, 59, 60, 99, 100, 1300};
        int[] to = {0, 19, 20, 59, 59, 98, 98, 1268};
        for (int i = 0; i < from.length; i++) {
            KilnCourses x = new KilnCourses();
            Due.heats(x, from[i], from[i], from[i]);
            x.step(1);
            heatsAre(x, to[i], to[i], to[i]);
        }
    }

    @Promise(number = 0, words = "0 at least, 1300 at most.")
    static void heatsStayWithin0And1300() {
        KilnCourses x = new KilnCourses();
        Due.heats(x, 0, 0, 0);
        x.step(60);
        heatsAre(x, 0, 0, 0);
        Due.heats(x, 1300, 1300, 1300);
        Due.settings(x, 3, 3, 3);
        x.step(1);
        heatsAre(x, 1300, 1300, 1300);
        // From 1254 to 1256 on full gives 75, and 30 are lost.
        for (int from = 1254; from <= 1256; from++) {
            Due.heats(x, from, from, from);
            x.step(1);
            int to = from == 1254 ? 1299 : 1300;
            heatsAre(x, to, to, to);
        }
    }

    @Promise(number = 0, words = "FUEL (0 at first) is more by what all three SETTINGS BURN.")
    static void fuelIs0AtFirstAndAllThreeBurn() {
        KilnCourses x = new KilnCourses();
        Due.is("at first", x.count(1), 0);
        Due.settings(x, 1, 2, 3);
        x.step(1);
        Due.is("all three", x.count(1), 10);
        x.step(2);
        Due.is("more", x.count(1), 30);
    }

    @Promise(number = 0, words = "STEPS (0 .. 9999; 0 at first) is 1 more.")
    static void stepsEndAt9999() {
        KilnCourses x = new KilnCourses();
        Due.is("at first", x.count(2), 0);
        x.step(1);
        Due.is("1 more", x.count(2), 1);
        Due.is("to 9999", Steps.go(x, 9998), 0);
        Due.is("steps", x.count(2), 9999);
        Due.is("one more", x.step(1), Bound.STATE);
        Due.is("steps", x.count(2), 9999);
    }

    @Promise(number = 0, words = "Then LOADS by numbers, each that isn't SPOILED")
    static void aSpoiledOneStaysAsItIs() {
        KilnCourses x = Way.of(POT, 1, 900, 819);
        x.step(1);
        Due.is("it fell by 81", x.of(0, 4), Way.CRACKED);
        Way.set(x, 1090, 1101);
        Due.is("too hot", x.step(1), 0);
        Due.is("cracked still", x.of(0, 4), Way.CRACKED);
        Way.set(x, 900, 900);
        x.step(1);
        Due.is("it does not soak", x.of(0, 3), 0);
        x = Way.of(POT, 1, 1090, 1101);
        x.step(1);
        Due.is("too hot", x.of(0, 4), Way.SLUMPED);
        Way.set(x, 900, 800);
        Due.is("it falls by 100", x.step(1), 0);
        Due.is("slumped still", x.of(0, 4), Way.SLUMPED);
    }

    @Promise(number = 0, words = "h being the HEAT of its ZONE ahead of the STEP, H that behind it")
    static void whatItBearsIsAskedOfTheHeatAhead() {
        Due.is("a hollow one from 199 to 240, where it bore 120", Way.stateBehind(HOLLOW, 1, 199, 240), Way.CRACKED);
        Due.is("a glazed one from 599 to 647, where it bore 18", Way.stateBehind(GLAZED, 9, 599, 647), Way.RAW);
        Due.is("a pot is as hot as its zone then", Way.stateBehind(POT, 1, 1101, 1100), Way.RAW);
        KilnCourses x = Way.of(POT, 1, 800, 799);
        x.step(1);
        Due.is("it does not soak by the heat ahead", x.of(0, 3), 0);
    }

    @Promise(number = 0, words = "if H less h is above its RISES from h")
    static void aRiseOfJustItsRisesIsBorne() {
        int[][] ways = {
            {POT, 1, 100, 120}, {THIN, 1, 100, 112}, {THIN, 9, 100, 48}, {BRICK, 1, 100, 120}, {GLAZED, 9, 599, 48}, {GLAZED, 9, 600, 18},
            {HOLLOW, 1, 199, 40}, {HOLLOW, 1, 200, 120}, {LINED, 9, 599, 48}, {LINED, 9, 600, 18}, {LINED, 1, 600, 82}, {POT, 9, 0, 120},
        };
        for (int[] way : ways) {
            String call = "kind " + way[0] + " of size " + way[1] + " from " + way[2];
            Due.is(call + " by " + way[3], Way.stateBehind(way[0], way[1], way[2], way[2] + way[3]), Way.RAW);
            Due.is(call + " by one more", Way.stateBehind(way[0], way[1], way[2], way[2] + way[3] + 1), Way.CRACKED);
        }
    }

    @Promise(number = 0, words = "or h less H above its FALLS, it is cracked")
    static void aFallOfJustItsFallsIsBorne() {
        int[] falls = {80, 80, 40, 60, 40, 80};
        for (int kind = POT; kind <= LINED; kind++) {
            Due.is("kind " + kind + " by its falls", Way.stateBehind(kind, 1, 700, 700 - falls[kind]), Way.RAW);
            Due.is("kind " + kind + " by one more", Way.stateBehind(kind, 1, 700, 700 - falls[kind] - 1), Way.CRACKED);
        }
    }

    @Promise(number = 0, words = "else, if H is above its MELTS, it is slumped")
    static void atJustItsMeltsItDoesNotSlump() {
        int[] melts = {1100, 1100, 1200, 1300, 1200, 1300};
        for (int kind = POT; kind <= LINED; kind++) {
            int behind = Way.stateBehind(kind, 1, melts[kind] - 10, melts[kind]);
            Due.is("kind " + kind + " at " + melts[kind], behind, kind == HOLLOW ? Way.DONE : Way.RAW);
            if (melts[kind] < 1300) {
                Due.is("kind " + kind + " at 1 more", Way.stateBehind(kind, 1, melts[kind] - 10, melts[kind] + 1), Way.SLUMPED);
            }
        }
        Due.is("one that rises too quick, too", Way.stateBehind(THIN, 9, 1060, 1109), Way.CRACKED);
        Due.is("one that falls too quick, too", Way.stateBehind(BRICK, 1, 1250, 1209), Way.CRACKED);
    }

    @Promise(number = 0, words = "else, if H is TOP or more, SOAKED is 1 more (99 at most)")
    static void itSoaksAtJustItsTopAndNotAbove99() {
        int[] top = {800, 800, 900, 1000, 900, 1000};
        for (int kind = POT; kind <= LINED; kind++) {
            KilnCourses below = Way.of(kind, 1, top[kind], top[kind] - 1);
            below.step(1);
            Due.is("kind " + kind + " at 1 less than its top", below.of(0, 3), 0);
            KilnCourses at = Way.of(kind, 1, top[kind] - 1, top[kind]);
            at.step(1);
            Due.is("kind " + kind + " at its top", at.of(0, 3), 1);
        }
        KilnCourses x = hot(LINED, 1, 60);
        x.step(38);
        Due.is("98 steps", x.of(0, 3), 98);
        x.step(1);
        Due.is("99 steps", x.of(0, 3), 99);
        x.step(1);
        Due.is("100 steps", x.of(0, 3), 99);
        Due.is("it is done still", x.of(0, 4), 1);
    }

    @Promise(number = 0, words = "and it is done, if that is NEED or more.")
    static void itIsDoneBehindJustItsNeed() {
        int[][] needs = {{POT, 9, 2}, {THIN, 9, 2}, {BRICK, 1, 2}, {BRICK, 9, 6}, {GLAZED, 9, 2}, {HOLLOW, 1, 1}, {HOLLOW, 2, 2}, {HOLLOW, 9, 5}, {LINED, 9, 2}};
        for (int[] need : needs) {
            KilnCourses x = Way.of(need[0], need[1], 1050, 1050);
            for (int i = 1; i <= need[2]; i++) {
                Way.set(x, 1050, 1050);
                x.step(1);
                Due.is("kind " + need[0] + " of size " + need[1] + " behind " + i, x.of(0, 4), i < need[2] ? Way.RAW : Way.DONE);
            }
        }
    }

    @Promise(number = 0, words = "(A LOAD that is done soaks on, and can be SPOILED still.)")
    static void aDoneOneSoaksOnAndCanBeSpoiled() {
        KilnCourses x = hot(LINED, 1, 2);
        Due.is("done", x.of(0, 4), Way.DONE);
        x.step(1);
        Due.is("it soaks on", x.of(0, 3), 3);
        Way.set(x, 1200, 1119);
        Due.is("it falls by 81", x.step(1), 1);
        Due.is("cracked", x.of(0, 4), Way.CRACKED);
        Due.is("not done any more", x.count(4), 0);
        Due.is("soaked as it was", x.of(0, 3), 3);
        x = Way.of(HOLLOW, 1, 1100, 1100);
        x.step(1);
        Due.is("done", x.of(0, 4), Way.DONE);
        Way.set(x, 1190, 1201);
        x.step(1);
        Due.is("slumped", x.of(0, 4), Way.SLUMPED);
    }

    @Promise(number = 0, words = "TROUBLE: a LOAD becomes SPOILED.")
    static void oneThatIsSpoiledAlreadyIsNoTrouble() {
        KilnCourses x = Way.of(POT, 1, 900, 819);
        Due.is("trouble", x.next(3), 1);
        x.step(1);
        Way.set(x, 900, 819);
        Due.is("no trouble", x.next(3), 0);
        Due.is("no trouble", x.may(0), 0b1111);
        Due.course(x, 0, "full x9");
        Due.is("no trouble", x.fire(0, true), 9);
    }

    @Promise(number = 0, words = "NONE is -1.")
    static void theConstants() throws ReflectiveOperationException {
        // By their names, for the compiler writes a constant's number into what uses it.
        String[] names = {"NONE", "BAD", "STATE", "FULL"};
        for (int i = 0; i < names.length; i++) {
            Due.is(names[i], KilnCourses.class.getField(names[i]).getInt(null), -1 - i);
        }
    }

    @Promise(number = 0, words = "Refusals, the first that the call's words name")
    static void theFirstRefusalThatIsNamed() {
        Bound.refused(Bound.BAD, "leg: BAD ahead of STATE", x -> x.leg(1, 0, 4));
        Bound.refused(Bound.STATE, "leg: STATE ahead of -12", x -> x.leg(1, 9, 0));
        Bound.refused(Bound.BAD, "leg: BAD ahead of -12", x -> x.leg(0, 9, 4));
        Bound.refused(Bound.BAD, "print: BAD ahead of STATE", x -> x.print(1, -2));
        Bound.refused(Bound.STATE, "print: STATE ahead of -12", x -> x.print(1, 999));
        Bound.refused(Bound.BAD, "join: BAD ahead of STATE", x -> x.join(1, 4));
        Bound.refused(Bound.BAD, "tries: BAD ahead of STATE", x -> x.tries(1, 9));
        Bound.refused(Bound.BAD, "lay: BAD ahead of STATE", x -> x.lay(0, 5, 1));
        Bound.refused(Bound.BAD, "taken: BAD ahead of -13", x -> x.taken(0, 6));
        Bound.refused(Bound.BAD, "tells: BAD ahead of -11", x -> x.tells(2, 3, 0));
        Bound.refused(Bound.BAD, "loads: BAD ahead of -11", x -> x.loads(2, 2, 0, 1));
        Bound.refused(Bound.MISSING, "loads: -11 ahead of -13 and -12", x -> x.loads(2, 0, -1, 1));
        Bound.refused(Bound.OTHER_SORT, "loads: -13 ahead of -12", x -> x.loads(0, 1, -1, 1));
        Bound.refused(Bound.BAD, "sheet: BAD ahead of -14", x -> x.sheet(0, 2, -1));
        Bound.refused(Bound.MISSING, "put: -11 ahead of -12", x -> x.put(2, -1, 0));
        Bound.refused(Bound.BAD, "copy: BAD ahead of -11", x -> x.copy(2, 0, 4, 0, 1));
        Bound.refused(Bound.MISSING, "copy: -11 ahead of -12", x -> x.copy(2, 0, 0, 0, -1));
        Bound.refused(Bound.OTHER_SORT, "copy: -13 ahead of -12", x -> x.copy(0, 0, 1, 0, -1));
    }

    @Promise(number = 0, words = "BAD (-2: a number is none such or not as told), STATE (-3), FULL (-4); of SHEETS, LEGS, bytes: -11 it is missing, -12 a place outside, -13 a thing of another sort or KIND, -14 a size below 0.")
    static void theNumberOfEachRefusal() {
        Bound.refused(-2, "a number is none such", x -> x.zone(3, 0));
        Bound.refused(-2, "a number is not as told", x -> x.gives(0, 1301));
        Bound.refused(-3, "no such course", x -> x.fire(1, false));
        Bound.refused(-4, "too many legs", x -> x.join(0, 0));
        Bound.refused(-11, "a sheet is missing", x -> x.put(2, 0, 0));
        Bound.refused(-12, "a place outside a sheet", x -> x.put(0, 6, 0));
        Bound.refused(-12, "a leg outside a course", x -> x.leg(0, 4, 0));
        Bound.refused(-12, "a byte outside a text", x -> x.print(2, 14));
        Bound.refused(-13, "another sort", x -> x.loads(0, 1, 0, 1));
        Bound.refused(-13, "another kind", x -> x.taken(0, 1));
        Bound.refused(-14, "a size below 0", x -> x.sheet(0, 0, -1));
    }

    @Promise(number = 0, words = "they change nothing (but THE TAPE, where told)")
    static void refusalsChangeNothing() {
        Bound.refused(Bound.BAD, "heat", x -> x.heat(0, 1301));
        Bound.refused(Bound.BAD, "step", x -> x.step(61));
        Bound.refused(Bound.BAD, "course", x -> x.course(4));
        Bound.refused(Bound.FULL, "join", x -> x.join(0, 0));
        Bound.refused(Bound.STATE, "lay", x -> x.lay(0, 1, 1));
        KilnCourses x = Kept.some();
        Due.feed(x, ";");
        Due.is("a fault", x.course(0), -100 - 15);
        Due.is("the tape is empty, as told", x.count(3), 0);
        Due.is("the course stays", x.print(0, -1), 31);
    }
}
