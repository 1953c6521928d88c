/** Promises 35 to 41: the image, loads by a sheet, counts, sheets. */
public final class HostTest {
    public static void main(String[] args) {
        image();
        imageIsItsOwn();
        loads();
        loadsLeftOut();
        loadsOutside();
        loadsRefusals();
        count();
        sheet();
        put();
        copy();
        copyRefusals();
        Due.end();
    }

    private static void image() {
        KilnCourses x = new KilnCourses();
        Due.is("back without an image", x.back(), -3);
        x.load(5, 2, 1);
        x.load(0, 9, 2);
        Due.heats(x, 1000, 1290, 1090);
        Due.settings(x, 1, 3, 0);
        x.step(1);
        Due.course(x, 0, "full/off/low");
        Due.course(x, 1, "low x2;mid");
        Due.feed(x, "abc");
        x.sheet(0, 1, 2);
        int[] before = seen(x);
        Due.is("image", x.image(), 2);
        disturb(x);
        Due.is("back", x.back(), 2);
        same("back", before, seen(x));
        Due.is("the tape isn't kept in it", x.count(3), 4);
        Due.is("sheets aren't kept in it", x.put(0, 0, 0), -11);
        disturb(x);
        Due.is("back again", x.back(), 2);
        same("back again", before, seen(x));
    }

    private static void disturb(KilnCourses x) {
        x.take();
        x.move(0, 0);
        x.load(2, 7, 1);
        x.load(3, 1, 1);
        Due.settings(x, 2, 0, 3);
        x.step(7);
        x.clear(1);
        Due.course(x, 0, "off");
        Due.course(x, 2, "off");
        Due.feed(x, "abcd");
        x.sheet(0, -1, 0);
    }

    private static int[] seen(KilnCourses x) {
        int[] seen = new int[64];
        int n = 0;
        for (int z = 0; z < 3; z++) {
            for (int what = 0; what <= 4; what++) {
                seen[n++] = x.zone(z, what);
            }
        }
        for (int load = 0; load < 3; load++) {
            for (int what = 0; what <= 10; what++) {
                seen[n++] = x.of(load, what);
            }
        }
        for (int what : new int[] {0, 1, 2, 4, 5, 6}) {
            seen[n++] = x.count(what);
        }
        for (int c = 0; c < 4; c++) {
            seen[n++] = x.print(c, -1);
        }
        return seen;
    }

    private static void same(String when, int[] due, int[] got) {
        for (int i = 0; i < due.length; i++) {
            Due.is(when + ": thing " + i, got[i], due[i]);
        }
    }

    private static void imageIsItsOwn() {
        KilnCourses x = new KilnCourses();
        Due.is("an image of none", x.image(), 0);
        x.load(0, 1, 0);
        Due.is("a later image", x.image(), 1);
        x.heat(0, 500);
        x.anew(0);
        x.load(0, 1, 0);
        Due.is("back to the later one", x.back(), 1);
        Due.is("heat", x.zone(0, 0), 20);
        Due.is("mass", x.zone(0, 2), 1);
    }

    private static void fill(KilnCourses x, int sheet, int sort, int... items) {
        x.sheet(sheet, sort, items.length);
        for (int i = 0; i < items.length; i++) {
            x.put(sheet, i, items[i]);
        }
    }

    private static void loads() {
        KilnCourses x = new KilnCourses();
        fill(x, 0, 1, 9, 3, 4, 2, 5, 9, 0);
        Due.is("two from place 1 on", x.loads(0, 1, 1, 2), 2);
        Due.is("kind", x.of(0, 0), 3);
        Due.is("size", x.of(0, 1), 4);
        Due.is("zone", x.of(0, 2), 2);
        Due.is("kind", x.of(1, 0), 5);
        Due.is("size", x.of(1, 1), 9);
        Due.is("zone", x.of(1, 2), 0);
        Due.is("none asked", x.loads(0, 1, 1, 0), 0);
        Due.is("count", x.count(0), 2);
        fill(x, 1, 0, 65536 + 1, 2, 0);
        Due.is("by shorts", x.loads(1, 0, 0, 1), 1);
        Due.is("kind by shorts", x.of(2, 0), 1);
    }

    private static void loadsLeftOut() {
        KilnCourses x = new KilnCourses();
        fill(x, 0, 1, 6, 1, 0, 0, 0, 0, 0, 1, 3, 2, 2, 2);
        Due.is("three of four are left out", x.loads(0, 1, 0, 4), 1);
        Due.is("count", x.count(0), 1);
        Due.is("kind", x.of(0, 0), 2);
        for (int i = 0; i < 6; i++) {
            x.load(0, 1, 0);
        }
        fill(x, 0, 1, 0, 1, 1, 0, 2, 1, 0, 3, 1);
        Due.is("those beyond 8 are left out", x.loads(0, 1, 0, 3), 1);
        Due.is("size of the eighth", x.of(7, 1), 1);
        Due.is("places matter still", x.loads(0, 1, 0, 4), -12);
    }

    private static void loadsOutside() {
        KilnCourses x = new KilnCourses();
        fill(x, 0, 1, 0, 1, 0, 1, 2, 1, 2, 2);
        Due.is("what stood ahead came", x.loads(0, 1, 0, 3), -12);
        Due.is("what stood ahead came", x.count(0), 2);
        Due.is("from -1", x.loads(0, 1, -1, 1), -12);
        Due.is("from the least", x.loads(0, 1, Integer.MIN_VALUE, 8), -12);
        Due.is("from the most", x.loads(0, 1, Integer.MAX_VALUE, 8), -12);
        Due.is("from the end", x.loads(0, 1, 8, 1), -12);
        Due.is("none asked, no place read", x.loads(0, 1, 99, 0), 0);
        Due.is("count", x.count(0), 2);
    }

    private static void loadsRefusals() {
        KilnCourses x = new KilnCourses();
        x.sheet(1, 0, 3);
        Due.is("sheet 4", x.loads(4, 0, 0, 1), -2);
        Due.is("sheet -1", x.loads(-1, 0, 0, 1), -2);
        Due.is("sort 2", x.loads(1, 2, 0, 1), -2);
        Due.is("sort -1", x.loads(1, -1, 0, 1), -2);
        Due.is("n 9", x.loads(1, 0, 0, 9), -2);
        Due.is("n -1", x.loads(1, 0, 0, -1), -2);
        Due.is("BAD ahead of -11", x.loads(0, 2, 0, 1), -2);
        Due.is("missing", x.loads(0, 0, 0, 1), -11);
        Due.is("another sort", x.loads(1, 1, 0, 1), -13);
        Due.is("-13 ahead of -12", x.loads(1, 1, 77, 1), -13);
    }

    private static void count() {
        KilnCourses x = new KilnCourses();
        x.load(5, 1, 0);
        x.load(0, 1, 1);
        x.load(5, 1, 2);
        Due.heats(x, 1290, 1290, 1290);
        Due.settings(x, 3, 2, 1);
        x.step(2);
        Due.course(x, 3, "low");
        Due.course(x, 1, "low");
        Due.feed(x, "low");
        int[] due = {3, 20, 2, 3, 0b101, 0b010, 0b1010};
        for (int what = 0; what <= 6; what++) {
            Due.is("count " + what, x.count(what), due[what]);
        }
        Due.is("count -1", x.count(-1), -2);
        Due.is("count 7", x.count(7), -2);
    }

    private static void sheet() {
        KilnCourses x = new KilnCourses();
        Due.is("shorts", x.sheet(0, 0, 40), 1);
        Due.is("the last item", x.put(0, 39, 7), 1);
        Due.is("ints, none", x.sheet(3, 1, 0), 1);
        Due.is("no item", x.put(3, 0, 7), -12);
        Due.is("sheet 4", x.sheet(4, 0, 1), -2);
        Due.is("sheet -1", x.sheet(-1, 0, 1), -2);
        Due.is("sort 2", x.sheet(0, 2, 1), -2);
        Due.is("sort -2", x.sheet(0, -2, 1), -2);
        Due.is("n 41", x.sheet(0, 0, 41), -2);
        Due.is("n -1", x.sheet(0, 0, -1), -14);
        Due.is("BAD ahead of -14", x.sheet(0, 2, -1), -2);
        Due.is("after refusals it is as it was", x.put(0, 39, 7), 1);
        Due.is("missing: n does not matter", x.sheet(0, -1, -5), 1);
        Due.is("missing", x.put(0, 0, 1), -11);
        Due.is("missing again: n does not matter", x.sheet(0, -1, 41), 1);
        // All are 0 again: three items are a pot of size 0.
        fill(x, 0, 1, 0, 1, 0);
        x.sheet(0, 1, 3);
        Due.is("all 0", x.loads(0, 1, 0, 1), 0);
        fill(x, 0, 1, 6, 0, 0);
        x.sheet(0, 1, 3);
        x.put(0, 1, 1);
        Due.is("the first is 0, too", x.loads(0, 1, 0, 1), 1);
        fill(x, 0, 1, 0, 1, 0);
        x.sheet(0, 0, 2);
        x.sheet(0, 1, 3);
        Due.is("all 0 after a shorter one", x.loads(0, 1, 0, 1), 0);
    }

    private static void put() {
        KilnCourses x = new KilnCourses();
        x.sheet(0, 0, 3);
        Due.is("put", x.put(0, 0, 0x12340003), 1);
        x.put(0, 1, 65536 + 5);
        x.put(0, 2, -65536 + 1);
        Due.is("lowest 16 bits", x.loads(0, 0, 0, 1), 1);
        Due.is("lowest 16 bits", x.of(0, 0) * 100 + x.of(0, 1) * 10 + x.of(0, 2), 351);
        x.put(0, 1, 32768 + 5);
        Due.is("a short below 0 is no size", x.loads(0, 0, 0, 1), 0);
        x.sheet(1, 1, 3);
        x.put(1, 0, 65536);
        x.put(1, 1, 1);
        Due.is("an int is the whole of it", x.loads(1, 1, 0, 1), 0);
        Due.is("sheet 4", x.put(4, 0, 0), -2);
        Due.is("sheet -1", x.put(-1, 0, 0), -2);
        Due.is("missing", x.put(2, 0, 0), -11);
        Due.is("missing ahead of a place outside", x.put(2, 99, 0), -11);
        Due.is("place 3", x.put(0, 3, 0), -12);
        Due.is("place -1", x.put(0, -1, 0), -12);
        Due.is("the greatest place", x.put(0, Integer.MAX_VALUE, 0), -12);
    }

    /** The items of a sheet of ints are what their loads tell. */
    private static void itemsAre(String when, KilnCourses x, int sheet, int place, int kind, int size, int zone) {
        int number = x.count(0);
        Due.is(when + ": a load by items", x.loads(sheet, 1, place, 1), 1);
        Due.is(when + ": first item", x.of(number, 0), kind);
        Due.is(when + ": second item", x.of(number, 1), size);
        Due.is(when + ": third item", x.of(number, 2), zone);
        x.take();
    }

    private static void copy() {
        KilnCourses x = new KilnCourses();
        fill(x, 0, 1, 0, 4, 1, 3, 2, 0);
        x.sheet(1, 1, 8);
        Due.is("copy", x.copy(0, 1, 1, 5, 3), 3);
        itemsAre("copied", x, 0, 0, 0, 4, 1);
        Due.is("to the front", x.copy(1, 5, 1, 0, 3), 3);
        x.put(1, 1, 9);
        x.put(1, 2, 2);
        itemsAre("copied within", x, 1, 0, 4, 9, 2);
        fill(x, 2, 1, 5, 2, 1, 0, 0);
        Due.is("forward, overlapping", x.copy(2, 0, 2, 1, 4), 4);
        itemsAre("as they were", x, 2, 1, 5, 2, 1);
        fill(x, 2, 1, 0, 5, 2, 1, 0);
        Due.is("backward, overlapping", x.copy(2, 1, 2, 0, 4), 4);
        itemsAre("as they were", x, 2, 0, 5, 2, 1);
        Due.is("none at the end", x.copy(2, 5, 1, 8, 0), 0);
        Due.is("all", x.copy(2, 0, 2, 0, 5), 5);
    }

    private static void copyRefusals() {
        KilnCourses x = new KilnCourses();
        x.sheet(0, 1, 5);
        x.sheet(1, 1, 3);
        x.sheet(2, 0, 3);
        Due.is("sheet 4", x.copy(4, 0, 0, 0, 0), -2);
        Due.is("sheet -1", x.copy(-1, 0, 0, 0, 0), -2);
        Due.is("other 4", x.copy(0, 0, 4, 0, 0), -2);
        Due.is("other -1", x.copy(3, 0, -1, 0, 0), -2);
        Due.is("from a missing one", x.copy(3, 0, 0, 0, 1), -11);
        Due.is("to a missing one", x.copy(0, 0, 3, 0, 1), -11);
        Due.is("-11 ahead of -12", x.copy(0, -1, 3, 0, 1), -11);
        Due.is("unlike sorts", x.copy(0, 0, 2, 0, 1), -13);
        Due.is("-13 ahead of -12", x.copy(2, 9, 0, 0, -1), -13);
        Due.is("i outside", x.copy(0, 6, 1, 0, 0), -12);
        Due.is("j outside", x.copy(0, 0, 1, 4, 0), -12);
        Due.is("i -1", x.copy(0, -1, 1, 0, 1), -12);
        Due.is("j -1", x.copy(0, 0, 1, -1, 1), -12);
        Due.is("n -1", x.copy(0, 0, 1, 0, -1), -12);
        Due.is("too many there", x.copy(0, 0, 1, 0, 4), -12);
        Due.is("too many here", x.copy(1, 0, 0, 0, 4), -12);
        Due.is("sums beyond an int", x.copy(0, 1, 1, 1, Integer.MAX_VALUE), -12);
        Due.is("sums beyond an int", x.copy(0, Integer.MAX_VALUE, 1, 0, Integer.MAX_VALUE), -12);
    }
}
