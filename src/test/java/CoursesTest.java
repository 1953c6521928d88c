/** Promises 19 to 27: the tape, courses read, printed, joined, fired. */
public final class CoursesTest {
    public static void main(String[] args) {
        feed();
        texts();
        faults();
        courseKeeps();
        leg();
        print();
        spelled();
        join();
        clear();
        fire();
        strict();
        tries();
        Due.end();
    }

    private static void feed() {
        KilnCourses x = new KilnCourses();
        Due.is("feed 1", x.feed(1, 'l'), 1);
        Due.is("feed 2, the rest does not matter", x.feed(2, 0xFFFFFFFFFFFF0000L | 'w' << 8 | 'o'), 3);
        Due.is("as it was fed", x.course(0), 1);
        Due.is("low", x.leg(0, 0, 0), 1);
        Due.is("feed 0", x.feed(0, 0), -2);
        Due.is("feed 9", x.feed(9, 0), -2);
        Due.is("feed -1", x.feed(-1, 0), -2);
        Due.is("a byte of 128", x.feed(3, 0x800000L), -2);
        Due.is("a first byte of 128", x.feed(3, 0x000080L), -2);
        Due.is("a byte of 255 at the top", x.feed(8, 0xFF00000000000000L), -2);
        Due.is("none came", x.count(3), 0);
        Due.is("bytes of 0 and 127", x.feed(8, 0x7F007F007F007F00L), 8);
        for (int i = 2; i <= 14; i++) {
            x.feed(8, 0);
        }
        Due.is("112 bytes", x.count(3), 112);
        Due.is("119 bytes", x.feed(7, 0), 119);
        Due.is("no room for 2", x.feed(2, 0), -4);
        Due.is("BAD ahead of FULL", x.feed(2, 0x8080), -2);
        Due.is("none came", x.count(3), 119);
        Due.is("room for 1", x.feed(1, 0), 120);
        Due.is("no room for 1", x.feed(1, 0), -4);
    }

    private static void texts() {
        String[] texts = {
            "off", "low", "mid", "full", "low x2", "low x1", "low x 9", "full/low/off", " full / low\n/ off x3 ",
            "low;mid;full;off;low;mid", "low/low/low", "low x3;mid/off/full x9\n;\nfull", "low\nx\n9", "mid/mid/off x2;off",
            "mid/off/mid;off/mid/mid",
        };
        String[] prints = {
            "off", "low", "mid", "full", "low x2", "low", "low x9", "full/low/off", "full/low/off x3",
            "low;mid;full;off;low;mid", "low", "low x3;mid/off/full x9;full", "low x9", "mid/mid/off x2;off",
            "mid/off/mid;off/mid/mid",
        };
        int[] legs = {1, 1, 1, 1, 1, 1, 1, 1, 1, 6, 1, 3, 1, 2, 2};
        KilnCourses x = new KilnCourses();
        for (int i = 0; i < texts.length; i++) {
            Due.is("legs of '" + texts[i] + "'", Due.course(x, i % 4, texts[i]), legs[i]);
            Due.is("the tape is empty", x.count(3), 0);
            Due.holds("'" + texts[i] + "' is printed " + prints[i], Due.printed(x, i % 4).equals(prints[i]));
        }
    }

    private static void faults() {
        fault("", 0);
        fault(" \n ", 3);
        fault("low;", 4);
        fault("low; ", 5);
        fault(";low", 0);
        fault("low;;mid", 4);
        fault("low/mid", 7);
        fault("low/mid ", 8);
        fault("low/", 4);
        fault("low/mid/", 8);
        fault("low/mid;full", 7);
        fault("low/mid x2", 8);
        fault("low/mid/full/off", 12);
        fault("low//mid", 4);
        fault("low/x", 4);
        fault("/low", 0);
        fault("low mid", 4);
        fault("lowmid", 0);
        fault("lowz", 0);
        fault("zlow", 0);
        fault("lowa", 0);
        fault("lowx2", 0);
        fault("low2", 3);
        fault("low x", 5);
        fault("low x ", 6);
        fault("low x0", 5);
        fault("low x12", 5);
        fault("low x01", 5);
        fault("low x10", 5);
        fault("low x19", 5);
        fault("low x91", 5);
        fault("low x;mid", 5);
        fault("low xx", 4);
        fault("low x2x3", 6);
        fault("low x2 3", 7);
        fault("low x2 mid", 7);
        fault("low x2/mid/mid", 6);
        fault("low x2mid", 6);
        fault("x2", 0);
        fault("7", 0);
        fault("Low", 0);
        fault("lOw", 0);
        fault("low\tx2", 3);
        fault("low\rx2", 3);
        fault("low!", 3);
        fault("lo", 0);
        fault("fulll", 0);
        fault("low; of", 5);
        fault("low,mid", 3);
        fault("low" + (char) 0, 3);
        fault("low" + (char) 127, 3);
        fault("low`", 3);
        fault("low{", 3);
        fault("low x:", 5);
        fault("off;off;off;off;off;off;off", 24);
        fault("off;off;off;off;off;off; !", 25);
        fault("off;off;off;off;off;off;;", 24);
        fault("off;off;off;off;off;off; ", 25);
        fault("off;off;off;off;off;off;", 24);
        fault("off;off;off;off;off;off off", 24);
        fault("off;off;off;off;off; ?;off", 21);
    }

    private static void fault(String text, int place) {
        KilnCourses x = new KilnCourses();
        Due.is("fault of '" + text + "'", Due.course(x, 1, text), -100 - place);
        Due.is("the tape is empty by a fault", x.count(3), 0);
        Due.is("no course by a fault", x.count(6), 0);
    }

    private static void courseKeeps() {
        KilnCourses x = new KilnCourses();
        Due.course(x, 2, "low x2;mid");
        Due.is("a fault", Due.course(x, 2, "full;?"), -105);
        Due.holds("the course stays as it was", Due.printed(x, 2).equals("low x2;mid"));
        Due.feed(x, "full");
        Due.is("course 4", x.course(4), -2);
        Due.is("course -1", x.course(-1), -2);
        Due.is("the tape stays", x.count(3), 4);
        Due.is("a shorter course", x.course(2), 1);
        Due.holds("it is the new one alone", Due.printed(x, 2).equals("full"));
        Due.is("courses", x.count(6), 4);
    }

    private static void leg() {
        KilnCourses x = new KilnCourses();
        Due.course(x, 3, "full/low/mid x7;off");
        int[] first = {3, 1, 2, 7};
        int[] second = {0, 0, 0, 1};
        for (int what = 0; what < 4; what++) {
            Due.is("leg 0 what " + what, x.leg(3, 0, what), first[what]);
            Due.is("leg 1 what " + what, x.leg(3, 1, what), second[what]);
        }
        Due.is("leg 2", x.leg(3, 2, 0), -12);
        Due.is("leg -1", x.leg(3, -1, 0), -12);
        Due.is("BAD ahead of -12", x.leg(3, 2, 4), -2);
        Due.is("what -1", x.leg(3, 0, -1), -2);
        Due.is("course 4", x.leg(4, 0, 0), -2);
        Due.is("course -1", x.leg(-1, 0, 0), -2);
        Due.is("none", x.leg(2, 0, 0), -3);
        Due.is("STATE ahead of -12", x.leg(2, 9, 0), -3);
        Due.is("BAD ahead of STATE", x.leg(2, 0, 4), -2);
    }

    private static void print() {
        KilnCourses x = new KilnCourses();
        String longest = "full/full/low x9;full/full/low x9;full/full/low x9;full/full/low x9;full/full/low x9;full/full/low x9";
        Due.is("the longest", Due.course(x, 0, longest), 6);
        Due.is("its size", x.print(0, -1), 101);
        Due.holds("the longest is printed", Due.printed(x, 0).equals(longest));
        Due.is("the last byte", x.print(0, 100), '9');
        Due.is("behind it", x.print(0, 101), -12);
        Due.is("far behind it", x.print(0, Integer.MAX_VALUE), -12);
        Due.is("k -2", x.print(0, -2), -2);
        Due.is("BAD ahead of STATE", x.print(1, -2), -2);
        Due.is("none", x.print(1, -1), -3);
        Due.is("STATE ahead of -12", x.print(1, 500), -3);
        Due.is("course 4", x.print(4, 0), -2);
        Due.is("course -1", x.print(-1, 0), -2);
    }

    private static void spelled() {
        KilnCourses x = new KilnCourses();
        Due.course(x, 0, "low x 3;off/off/mid");
        Due.is("an empty tape", x.spelled(0), 0);
        Due.feed(x, "low x3;off/off/mid");
        Due.is("as printed", x.spelled(0), 1);
        Due.is("the tape stays", x.count(3), 18);
        x.feed(1, ' ');
        Due.is("a blank more", x.spelled(0), 0);
        x.course(0);
        Due.feed(x, "low x3;off/off/mi");
        Due.is("a byte less", x.spelled(0), 0);
        x.feed(1, 'x');
        Due.is("another byte", x.spelled(0), 0);
        x.course(0);
        Due.course(x, 1, "low");
        Due.feed(x, "mow");
        Due.is("another first byte", x.spelled(1), 0);
        Due.is("none", x.spelled(2), -3);
        Due.is("course 4", x.spelled(4), -2);
        Due.is("course -1", x.spelled(-1), -2);
    }

    private static void join() {
        KilnCourses x = new KilnCourses();
        Due.course(x, 0, "low;mid/off/off x2");
        Due.course(x, 1, "full x3");
        Due.is("join", x.join(0, 1), 3);
        Due.holds("b behind a", Due.printed(x, 0).equals("low;mid/off/off x2;full x3"));
        Due.holds("b stays", Due.printed(x, 1).equals("full x3"));
        Due.is("with itself", x.join(0, 0), 6);
        Due.holds("doubled", Due.printed(x, 0).equals("low;mid/off/off x2;full x3;low;mid/off/off x2;full x3"));
        Due.is("more than 6", x.join(0, 1), -4);
        Due.is("more than 6", x.join(1, 0), -4);
        Due.is("none comes", x.leg(1, 1, 0), -12);
        Due.is("a none", x.join(2, 0), -3);
        Due.is("b none", x.join(0, 2), -3);
        Due.is("a BAD", x.join(4, 2), -2);
        Due.is("b BAD", x.join(2, -1), -2);
    }

    private static void clear() {
        KilnCourses x = new KilnCourses();
        Due.course(x, 0, "low;mid");
        Due.course(x, 3, "low");
        Due.is("courses", x.count(6), 0b1001);
        Due.is("clear", x.clear(0), 2);
        Due.is("courses", x.count(6), 0b1000);
        Due.is("clear again", x.clear(0), -3);
        Due.is("clear 4", x.clear(4), -2);
        Due.is("clear -1", x.clear(-1), -2);
        Due.is("it stays none", x.leg(0, 0, 0), -3);
    }

    private static void fire() {
        KilnCourses x = new KilnCourses();
        Due.course(x, 0, "full/off/off;off/low/mid x2");
        Due.is("fire", x.fire(0, false), 3);
        Due.is("fuel", x.count(1), 6 + 2 * 4);
        Due.is("steps", x.count(2), 3);
        Due.is("settings stay", x.zone(0, 1) * 100 + x.zone(1, 1) * 10 + x.zone(2, 1), 12);
        KilnCourses y = new KilnCourses();
        y.setting(0, 3);
        y.step(1);
        Due.settings(y, 0, 1, 2);
        y.step(2);
        for (int z = 0; z < 3; z++) {
            Due.is("as steps by hand", x.zone(z, 0), y.zone(z, 0));
        }
        Due.is("fire none", x.fire(1, false), -3);
        Due.is("fire 4", x.fire(4, false), -2);
        Due.is("fire -1", x.fire(-1, true), -2);
        for (int i = 0; i < 166; i++) {
            x.step(60);
        }
        x.step(34);
        Due.is("steps", x.count(2), 9997);
        Due.is("all of it must have room", x.fire(0, true), -3);
        Due.is("nothing went", x.count(2), 9997);
        Due.course(x, 1, "low x2");
        Due.is("just so many", x.fire(1, true), 2);
    }

    private static void strict() {
        KilnCourses x = new KilnCourses();
        x.load(1, 9, 0);
        x.load(0, 1, 1);
        Due.course(x, 0, "low;full x3;off x2");
        x.image();
        // The thin one bears 48: low is 42 there, full is not borne in the second step.
        Due.is("it ends behind the first trouble", x.fire(0, true), 2);
        Due.is("settings are as its leg has them", x.zone(0, 1) + x.zone(1, 1) + x.zone(2, 1), 9);
        Due.is("fuel", x.count(1), 3 + 18);
        Due.is("spoiled", x.count(5), 0b11);
        x.back();
        Due.is("not strict: all goes", x.fire(0, false), 6);
        Due.is("settings of the last leg", x.zone(0, 1), 0);
        Due.is("fuel", x.count(1), 3 + 54);
        Due.is("strict, but no load becomes spoiled any more", x.fire(0, true), 6);
    }

    private static void tries() {
        KilnCourses x = new KilnCourses();
        x.load(0, 1, 2);
        x.load(1, 9, 0);
        x.load(5, 1, 1);
        x.load(2, 9, 1);
        x.step(1);
        Due.course(x, 0, "low;full/off/off;full x2");
        // First the thin one, later the pot alone in zone 2; the brick's mass spares the others.
        Due.is("fuel more", x.tries(0, 0), 3 + 6 + 36);
        Due.is("the first trouble", x.tries(0, 1), 2);
        Due.is("the first load", x.tries(0, 2), 1);
        Due.is("how", x.tries(0, 3), 2);
        Due.is("behind all", x.tries(0, 4), 0b0011);
        Due.is("done ones", x.tries(0, 5), 0);
        Due.is("nothing is kept", x.count(1) + x.count(5) + x.zone(0, 1), 0);
        int[] heats = {x.tries(0, 6), x.tries(0, 7), x.tries(0, 8)};
        x.fire(0, false);
        for (int z = 0; z < 3; z++) {
            Due.is("heats behind all", heats[z], x.zone(z, 0));
        }
        Due.is("truly", x.count(5), 0b0011);
        Due.is("fuel more than before", x.tries(0, 0), 45);
        Due.course(x, 1, "off");
        Due.is("no trouble", x.tries(1, 1), -1);
        Due.is("no trouble", x.tries(1, 2), -1);
        Due.is("no trouble", x.tries(1, 3), 0);
        Due.is("spoiled ones ahead count", x.tries(1, 4), 0b0011);
        Due.is("what -1", x.tries(0, -1), -2);
        Due.is("what 9", x.tries(0, 9), -2);
        Due.is("course 4", x.tries(4, 0), -2);
        Due.is("course -1", x.tries(-1, 0), -2);
        Due.is("none", x.tries(2, 0), -3);
        Due.is("BAD ahead of STATE", x.tries(2, 9), -2);
        triesSlumped();
    }

    private static void triesSlumped() {
        KilnCourses x = new KilnCourses();
        x.load(5, 1, 0);
        x.load(0, 1, 0);
        x.load(1, 9, 1);
        Due.heats(x, 1090, 1090, 1090);
        Due.course(x, 0, "mid/off/off x2");
        Due.is("the first trouble", x.tries(0, 1), 1);
        Due.is("the first load", x.tries(0, 2), 1);
        Due.is("slumped", x.tries(0, 3), 3);
        Due.is("the lined one is done", x.tries(0, 5), 0b101);
    }
}
