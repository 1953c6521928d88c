/** A keeper in which there is something of everything, and all that can be seen of one. */
final class Kept {
    static final int LOADS = 5, LEGS = 4;

    private Kept() {
    }

    /**
     * Loads 0 slumped, 1 cracked, 2 and 3 done, 4 raw but soaked; courses 0 and 2; the tape just as
     * course 2 is printed; sheets 0 of shorts, 1 and 3 of ints, 2 missing; an image of what was earlier.
     */
    static KilnCourses some() {
        KilnCourses x = new KilnCourses();
        x.load(0, 3, 0);
        x.load(1, 9, 1);
        x.load(5, 2, 2);
        Due.course(x, 0, "low x3;mid/off/full x9;full;off");
        Due.settings(x, 2, 1, 0);
        x.step(2);
        x.image();
        x.load(4, 1, 2);
        x.load(2, 9, 2);
        Due.heats(x, 1150, 950, 1100);
        Due.settings(x, 3, 2, 3);
        x.step(2);
        Due.course(x, 2, "off/mid/low x2");
        Due.feed(x, "off/mid/low x2");
        row(x, 0, 0, 1, 2, 0, 4, 5, 1);
        row(x, 1, 1, 3, 9, 2, 0, 1, 1);
        row(x, 3, 1, 5, 4, 1);
        return x;
    }

    static void row(KilnCourses x, int sheet, int sort, int... items) {
        x.sheet(sheet, sort, items.length);
        for (int i = 0; i < items.length; i++) {
            x.put(sheet, i, items[i]);
        }
    }

    /** The tape is not empty here: it is read first, into the same course. */
    static void course(KilnCourses x, int c, String text) {
        x.course(c);
        Due.course(x, c, text);
    }

    /** All that can be seen; sheets can be read by their loads only, so the keeper is another one then. */
    static String seen(KilnCourses x) {
        StringBuilder all = new StringBuilder();
        addPlain(x, all);
        all.append(" tape like 2: ").append(x.spelled(2));
        addSheets(x, all);
        all.append(" back: ").append(x.back());
        addPlain(x, all);
        return all.toString();
    }

    private static void addPlain(KilnCourses x, StringBuilder all) {
        all.append(" counts:");
        for (int what = 0; what <= 6; what++) {
            all.append(' ').append(x.count(what));
        }
        for (int zone = 0; zone < 3; zone++) {
            all.append(" zone:");
            for (int what = 0; what <= 4; what++) {
                all.append(' ').append(x.zone(zone, what));
            }
        }
        for (int load = 0; load < x.count(0); load++) {
            all.append(" load:");
            for (int what = 0; what <= 4; what++) {
                all.append(' ').append(x.of(load, what));
            }
        }
        for (int c = 0; c < 4; c++) {
            addCourse(x, c, all);
        }
    }

    private static void addCourse(KilnCourses x, int c, StringBuilder all) {
        all.append(" course:");
        for (int k = 0; x.leg(c, k, 0) >= 0; k++) {
            all.append(' ').append(x.leg(c, k, 0)).append(x.leg(c, k, 1)).append(x.leg(c, k, 2)).append(x.leg(c, k, 3));
        }
    }

    private static void addSheets(KilnCourses x, StringBuilder all) {
        while (x.count(0) > 0) {
            x.take();
        }
        for (int sheet = 0; sheet < 4; sheet++) {
            int sort = x.loads(sheet, 0, 0, 0) == 0 ? 0 : 1;
            all.append(" sheet: ").append(x.loads(sheet, sort, 0, 0)).append(" of ").append(sort);
            int at = 0;
            while (x.loads(sheet, sort, at, 1) == 1) {
                all.append(' ').append(x.of(0, 0)).append(x.of(0, 1)).append(x.of(0, 2));
                x.take();
                at += 3;
            }
            all.append(" then ").append(x.put(sheet, at, 0));
        }
    }
}
