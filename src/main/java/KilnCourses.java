/**
 * A kiln's keeper: three zones, their loads, and courses by which they are fired.
 * What each call answers stands in the document's promises; every row is made
 * with the object, so that no call makes another.
 */
public final class KilnCourses {
    public static final int NONE = -1, BAD = -2, STATE = -3, FULL = -4;

    private static final int MISSING = -11, OUTSIDE = -12, OTHER_SORT = -13, SIZE_BELOW_0 = -14;
    private static final int FAULT_BASE = -100;

    private static final int ZONES = 3, SETTINGS = 4;
    private static final int ROOM_HEAT = 20, MOST_HEAT = 1300, MOST_STEPS = 9999;
    private static final int KINDS = 6, MOST_LOADS = 8, MOST_SIZE = 9, PER_LOAD = 3;
    private static final int RAW = 0, DONE = 1, CRACKED = 2, SLUMPED = 3;
    private static final int COURSES = 4, MOST_LEGS = 6, MOST_TAPE = 120;
    private static final int SHEETS = 4, SHORTS = 0, INTS = 1, MOST_ITEMS = 40, MOST_TOLD = 12;
    private static final int MOST_AT_ONCE = 60, MOST_CAREFUL = 30, MOST_DRAWN = 40;
    private static final int MOST_PLAN_LEGS = 4, MOST_PLAN_STEPS = 6;

    private final Kiln kiln = new Kiln();
    private final Kiln thought = new Kiln();
    private final Kiln keptKiln = new Kiln();
    private final Course[] courses = new Course[COURSES];
    private final Course[] keptCourses = new Course[COURSES];
    private boolean isKept = false;
    private final Tape tape = new Tape();
    private final Printed printed = new Printed();
    private final Course scratch = new Course();
    private final Firing firing = new Firing();
    private final Planner planner = new Planner();
    private final Sheet[] sheets = new Sheet[SHEETS];

    public KilnCourses() {
        for (int c = 0; c < COURSES; c++) {
            courses[c] = new Course();
            keptCourses[c] = new Course();
        }
        for (int s = 0; s < SHEETS; s++) {
            sheets[s] = new Sheet();
        }
    }

    // ---- zones, loads

    public int heat(int zone, int v) {
        if (!isZone(zone) || !isHeat(v)) {
            return BAD;
        }
        int was = kiln.heat[zone];
        kiln.heat[zone] = v;
        return was;
    }

    public int setting(int zone, int v) {
        if (!isZone(zone) || !isSetting(v)) {
            return BAD;
        }
        int was = kiln.setting[zone];
        kiln.setting[zone] = v;
        return was;
    }

    public int zone(int zone, int what) {
        if (!isZone(zone)) {
            return BAD;
        }
        switch (what) {
            case 0: return kiln.heat[zone];
            case 1: return kiln.setting[zone];
            case 2: return kiln.mass[zone];
            case 3: return Burner.given(kiln.setting[zone], kiln.heat[zone]);
            case 4: return kiln.bitsInZone(zone);
            default: return BAD;
        }
    }

    public int gives(int setting, int heat) {
        if (!isSetting(setting) || !isHeat(heat)) {
            return BAD;
        }
        return Burner.given(setting, heat);
    }

    public int load(int kind, int size, int zone) {
        if (!isKind(kind) || !isWithin(size, 1, MOST_SIZE) || !isZone(zone)) {
            return BAD;
        }
        return kiln.bring(kind, size, zone);
    }

    public int of(int load, int what) {
        if (!isLoad(load)) {
            return BAD;
        }
        Load it = kiln.loads[load];
        switch (what) {
            case 0: return it.kind;
            case 1: return it.size;
            case 2: return it.zone;
            case 3: return it.soaked;
            case 4: return it.state;
            case 5: return it.riseFrom(kiln.heat[it.zone]);
            case 6: return it.fall;
            case 7: return it.top;
            case 8: return it.need;
            case 9: return it.melts;
            case 10: return it.mass;
            default: return BAD;
        }
    }

    public int rises(int load, int from) {
        if (!isLoad(load) || !isHeat(from)) {
            return BAD;
        }
        return kiln.loads[load].riseFrom(from);
    }

    public int move(int load, int zone) {
        if (!isLoad(load) || !isZone(zone)) {
            return BAD;
        }
        int was = kiln.loads[load].zone;
        kiln.loads[load].zone = zone;
        kiln.weigh();
        return was;
    }

    public int anew(int load) {
        if (!isLoad(load)) {
            return BAD;
        }
        int was = kiln.loads[load].state;
        kiln.loads[load].makeRaw();
        return was;
    }

    public int take() {
        if (kiln.count <= 0) {
            return STATE;
        }
        kiln.count--;
        kiln.weigh();
        return kiln.count;
    }

    public int taken(int load, int k) {
        if (!isLoad(load) || !isKind(k)) {
            return BAD;
        }
        return kiln.loads[load].isUnder(k) ? kiln.loads[load].size : OTHER_SORT;
    }

    // ---- steps

    public int step(int n) {
        if (!isWithin(n, 1, MOST_AT_ONCE)) {
            return BAD;
        }
        if (kiln.steps + n > MOST_STEPS) {
            return STATE;
        }
        int spoiled = 0;
        for (int i = 0; i < n; i++) {
            spoiled |= kiln.goStep();
        }
        return spoiled;
    }

    public int next(int what) {
        if (!isWithin(what, 0, 4)) {
            return BAD;
        }
        thought.become(kiln);
        int spoiled = thought.goStep();
        if (what < ZONES) {
            return thought.heat[what];
        }
        return what == 3 ? spoiled : thought.bitsOfDone();
    }

    public int may(int zone) {
        if (!isZone(zone)) {
            return BAD;
        }
        int bits = 0;
        for (int s = 0; s < SETTINGS; s++) {
            thought.become(kiln);
            thought.setting[zone] = s;
            if (thought.goStep() == 0) {
                bits |= 1 << s;
            }
        }
        return bits;
    }

    public int weakest(int zone) {
        if (!isZone(zone)) {
            return BAD;
        }
        int weakest = NONE;
        int least = 0;
        for (int i = 0; i < kiln.count; i++) {
            Load it = kiln.loads[i];
            if (it.zone != zone || it.isSpoiled()) {
                continue;
            }
            int rise = it.riseFrom(kiln.heat[zone]);
            if (weakest == NONE || rise < least) {
                weakest = i;
                least = rise;
            }
        }
        return weakest;
    }

    public int until(int zone, int v) {
        if (!isZone(zone) || !isHeat(v)) {
            return BAD;
        }
        thought.become(kiln);
        for (int n = 0; n <= MOST_AT_ONCE; n++) {
            if (thought.heat[zone] >= v) {
                return n;
            }
            thought.warm();
        }
        return NONE;
    }

    public int cool(int v) {
        if (!isHeat(v)) {
            return BAD;
        }
        thought.become(kiln);
        thought.setByCode(0);
        for (int n = 0; n <= MOST_AT_ONCE; n++) {
            if (thought.heat[thought.hottestZone()] <= v) {
                return n;
            }
            thought.warm();
        }
        return NONE;
    }

    // ---- courses

    public int feed(int n, long bytes) {
        if (!isWithin(n, 1, 8)) {
            return BAD;
        }
        for (int i = 0; i < n; i++) {
            if (byteOf(bytes, i) > 127) {
                return BAD;
            }
        }
        if (tape.size + n > MOST_TAPE) {
            return FULL;
        }
        for (int i = 0; i < n; i++) {
            tape.add(byteOf(bytes, i));
        }
        return tape.size;
    }

    public int course(int c) {
        if (!isCourse(c)) {
            return BAD;
        }
        int fault = tape.readCourse(scratch);
        tape.size = 0;
        if (fault != NONE) {
            return FAULT_BASE - fault;
        }
        courses[c].become(scratch);
        return courses[c].legs;
    }

    public int leg(int c, int k, int what) {
        if (!isCourse(c) || !isWithin(what, 0, ZONES)) {
            return BAD;
        }
        if (courses[c].isNone()) {
            return STATE;
        }
        if (!isWithin(k, 0, courses[c].legs - 1)) {
            return OUTSIDE;
        }
        return what == ZONES ? courses[c].steps[k] : courses[c].settingOf(k, what);
    }

    public int print(int c, int k) {
        if (!isCourse(c) || k < -1) {
            return BAD;
        }
        if (courses[c].isNone()) {
            return STATE;
        }
        printed.show(courses[c]);
        if (k == -1) {
            return printed.size;
        }
        return k < printed.size ? printed.bytes[k] : OUTSIDE;
    }

    public int spelled(int c) {
        if (!isCourse(c)) {
            return BAD;
        }
        if (courses[c].isNone()) {
            return STATE;
        }
        printed.show(courses[c]);
        return printed.isSameAs(tape) ? 1 : 0;
    }

    public int join(int a, int b) {
        if (!isCourse(a) || !isCourse(b)) {
            return BAD;
        }
        if (courses[a].isNone() || courses[b].isNone()) {
            return STATE;
        }
        if (courses[a].legs + courses[b].legs > MOST_LEGS) {
            return FULL;
        }
        courses[a].append(courses[b]);
        return courses[a].legs;
    }

    public int clear(int c) {
        if (!isCourse(c)) {
            return BAD;
        }
        if (courses[c].isNone()) {
            return STATE;
        }
        int had = courses[c].legs;
        courses[c].legs = 0;
        return had;
    }

    public int fire(int c, boolean strict) {
        if (!isCourse(c)) {
            return BAD;
        }
        if (courses[c].isNone() || kiln.steps + courses[c].allSteps() > MOST_STEPS) {
            return STATE;
        }
        firing.run(kiln, courses[c], strict);
        return firing.gone;
    }

    public int tries(int c, int what) {
        if (!isCourse(c) || !isWithin(what, 0, 8)) {
            return BAD;
        }
        if (courses[c].isNone()) {
            return STATE;
        }
        thought.become(kiln);
        firing.run(thought, courses[c], false);
        switch (what) {
            case 0: return thought.fuel - kiln.fuel;
            case 1: return firing.troubleAt;
            case 2: return firing.troubled;
            case 3: return isLoad(firing.troubled) ? thought.loads[firing.troubled].state : 0;
            case 4: return thought.bitsOfSpoiled();
            case 5: return thought.bitsOfDone();
            default: return thought.heat[what - 6];
        }
    }

    // ---- plans, careful steps

    public int plan(int k, int n, int what) {
        if (!isPlan(k, n) || !isWithin(what, 0, 1)) {
            return BAD;
        }
        planner.seek(kiln, k, n);
        if (planner.leastFuel == NONE) {
            return NONE;
        }
        return what == 0 ? planner.leastFuel : planner.digits();
    }

    public int lay(int c, int k, int n) {
        if (!isCourse(c) || !isPlan(k, n)) {
            return BAD;
        }
        planner.seek(kiln, k, n);
        if (planner.leastFuel == NONE) {
            return STATE;
        }
        courses[c].legs = 0;
        for (int i = 0; i < k; i++) {
            int s = planner.bestRow[i];
            courses[c].addLeg(s, s, s, n);
        }
        return planner.leastFuel;
    }

    public int wary() {
        return kiln.carefulCode();
    }

    public int careful(int n, int what) {
        if (!isWithin(n, 0, MOST_CAREFUL) || !isWithin(what, 0, 6)) {
            return BAD;
        }
        thought.become(kiln);
        for (int i = 0; i < n; i++) {
            thought.goCarefulStep();
        }
        switch (what) {
            case 0: return thought.fuel - kiln.fuel;
            case 1: return thought.bitsOfDone();
            case 2: return thought.bitsOfSpoiled();
            case 6: return thought.code();
            default: return thought.heat[what - 3];
        }
    }

    // ---- what was told, lots

    public int tells(int sheet, int zone, int what) {
        if (!isSheet(sheet) || !isZone(zone) || !isWithin(what, 0, 1)) {
            return BAD;
        }
        if (sheets[sheet].isMissing()) {
            return MISSING;
        }
        if (sheets[sheet].size > MOST_TOLD) {
            return BAD;
        }
        if (what == 0) {
            return firstOtherwise(sheets[sheet], zone, kiln.setting[zone]);
        }
        int bits = 0;
        for (int s = 0; s < SETTINGS; s++) {
            if (firstOtherwise(sheets[sheet], zone, s) == NONE) {
                bits |= 1 << s;
            }
        }
        return bits;
    }

    public int film(int sheet, int zone, int n) {
        if (!isSheet(sheet) || !isZone(zone) || !isWithin(n, 0, MOST_TOLD)) {
            return BAD;
        }
        sheets[sheet].begin(SHORTS, n);
        thought.become(kiln);
        for (int i = 0; i < n; i++) {
            thought.warm();
            sheets[sheet].write(i, thought.heat[zone]);
        }
        return n;
    }

    public int drawn(int seed, int n, int what) {
        if (!isWithin(n, 0, MOST_DRAWN) || !isWithin(what, 0, 3)) {
            return BAD;
        }
        thought.become(kiln);
        int z = seed;
        for (int i = 0; i < n; i++) {
            z = z * 1103515245 + 12345;
            thought.setting[(z >>> 9) % ZONES] = (z >>> 20) % SETTINGS;
            thought.goStep();
        }
        switch (what) {
            case 0: return thought.fuel - kiln.fuel;
            case 1: return thought.bitsOfDone();
            case 2: return thought.bitsOfSpoiled();
            default: return thought.hottestZone();
        }
    }

    // ---- the image, the host

    public int image() {
        keptKiln.become(kiln);
        for (int c = 0; c < COURSES; c++) {
            keptCourses[c].become(courses[c]);
        }
        isKept = true;
        return kiln.count;
    }

    public int back() {
        if (!isKept) {
            return STATE;
        }
        kiln.become(keptKiln);
        for (int c = 0; c < COURSES; c++) {
            courses[c].become(keptCourses[c]);
        }
        return kiln.count;
    }

    public int loads(int sheet, int sort, int from, int n) {
        if (!isSheet(sheet) || !isSort(sort) || !isWithin(n, 0, MOST_LOADS)) {
            return BAD;
        }
        Sheet row = sheets[sheet];
        if (row.isMissing()) {
            return MISSING;
        }
        if (row.sort != sort) {
            return OTHER_SORT;
        }
        int came = 0;
        int at = from;
        for (int i = 0; i < n; i++) {
            if (!row.hasRun(at, PER_LOAD)) {
                return OUTSIDE;
            }
            if (load(row.items[at], row.items[at + 1], row.items[at + 2]) >= 0) {
                came++;
            }
            at += PER_LOAD;
        }
        return came;
    }

    public int count(int what) {
        switch (what) {
            case 0: return kiln.count;
            case 1: return kiln.fuel;
            case 2: return kiln.steps;
            case 3: return tape.size;
            case 4: return kiln.bitsOfDone();
            case 5: return kiln.bitsOfSpoiled();
            case 6: return bitsOfCourses();
            default: return BAD;
        }
    }

    public int sheet(int sheet, int sort, int n) {
        if (!isSheet(sheet) || (sort != Sheet.NO_SORT && !isSort(sort))) {
            return BAD;
        }
        if (sort == Sheet.NO_SORT) {
            sheets[sheet].begin(Sheet.NO_SORT, 0);
            return 1;
        }
        if (n > MOST_ITEMS) {
            return BAD;
        }
        if (n < 0) {
            return SIZE_BELOW_0;
        }
        sheets[sheet].begin(sort, n);
        return 1;
    }

    public int put(int sheet, int i, int v) {
        if (!isSheet(sheet)) {
            return BAD;
        }
        if (sheets[sheet].isMissing()) {
            return MISSING;
        }
        if (!sheets[sheet].hasRun(i, 1)) {
            return OUTSIDE;
        }
        sheets[sheet].write(i, v);
        return 1;
    }

    public int copy(int sheet, int i, int other, int j, int n) {
        if (!isSheet(sheet) || !isSheet(other)) {
            return BAD;
        }
        Sheet source = sheets[sheet];
        Sheet target = sheets[other];
        if (source.isMissing() || target.isMissing()) {
            return MISSING;
        }
        if (source.sort != target.sort) {
            return OTHER_SORT;
        }
        if (!source.hasRun(i, n) || !target.hasRun(j, n)) {
            return OUTSIDE;
        }
        System.arraycopy(source.items, i, target.items, j, n);
        return n;
    }

    // ---- what the calls above share

    private int firstOtherwise(Sheet told, int zone, int setting) {
        thought.become(kiln);
        thought.setting[zone] = setting;
        for (int i = 0; i < told.size; i++) {
            thought.warm();
            if (thought.heat[zone] != told.items[i]) {
                return i;
            }
        }
        return NONE;
    }

    private int bitsOfCourses() {
        int bits = 0;
        for (int c = 0; c < COURSES; c++) {
            if (!courses[c].isNone()) {
                bits |= 1 << c;
            }
        }
        return bits;
    }

    private boolean isLoad(int load) {
        return isWithin(load, 0, kiln.count - 1);
    }

    private static boolean isWithin(int v, int least, int most) {
        return v >= least && v <= most;
    }

    private static boolean isZone(int zone) {
        return isWithin(zone, 0, ZONES - 1);
    }

    private static boolean isHeat(int v) {
        return isWithin(v, 0, MOST_HEAT);
    }

    private static boolean isSetting(int v) {
        return isWithin(v, 0, SETTINGS - 1);
    }

    private static boolean isKind(int kind) {
        return isWithin(kind, 0, KINDS - 1);
    }

    private static boolean isCourse(int c) {
        return isWithin(c, 0, COURSES - 1);
    }

    private static boolean isSheet(int sheet) {
        return isWithin(sheet, 0, SHEETS - 1);
    }

    private static boolean isSort(int sort) {
        return sort == SHORTS || sort == INTS;
    }

    private static boolean isPlan(int k, int n) {
        return isWithin(k, 1, MOST_PLAN_LEGS) && isWithin(n, 1, MOST_PLAN_STEPS);
    }

    private static int byteOf(long bytes, int i) {
        return (int) ((bytes >>> (8 * i)) & 255);
    }

    /** What a setting means; off is what is none of the others. */
    private static final class Burner {
        private static final int LOW = 1, MID = 2, HIGH = 3;

        static int given(int setting, int heat) {
            switch (setting) {
                case LOW: return Math.max(0, 60 - heat / 20);
                case MID: return Math.max(0, 120 - heat / 15);
                case HIGH: return Math.max(0, 200 - heat / 10);
                default: return 0;
            }
        }

        static int burnt(int setting) {
            switch (setting) {
                case LOW: return 1;
                case MID: return 3;
                case HIGH: return 6;
                default: return 0;
            }
        }

        static String word(int setting) {
            switch (setting) {
                case LOW: return "low";
                case MID: return "mid";
                case HIGH: return "full";
                default: return "off";
            }
        }
    }

    /** A load; what its kind doesn't tell is as of the kind above. */
    private static final class Load {
        static final int POT = 0, THIN = 1, BRICK = 2, GLAZED = 3, HOLLOW = 4, LINED = 5;
        private static final int[] KIND_ABOVE = {NONE, POT, POT, THIN, BRICK, GLAZED};
        private static final int POT_RISE = 120, POT_FALL = 80, POT_TOP = 800, POT_NEED = 2;
        private static final int MELTS_OVER_TOP = 300, LINED_MELTS_MORE = 200;
        private static final int MOST_SOAKED = 99;

        int kind = POT;
        int size = 1;
        int zone = 0;
        int soaked = 0;
        int state = RAW;
        // These hang on kind and size, which stay: they are kept, for each step asks for them.
        int fall = 0;
        int top = 0;
        int need = 0;
        int melts = 0;
        int mass = 0;

        void begin(int itsKind, int itsSize, int itsZone) {
            kind = itsKind;
            size = itsSize;
            zone = itsZone;
            fall = fallOf(kind);
            top = topOf(kind);
            need = needOf(kind, size);
            melts = kind == LINED ? top + MELTS_OVER_TOP + LINED_MELTS_MORE : top + MELTS_OVER_TOP;
            mass = massOf(kind, size);
            makeRaw();
        }

        void become(Load other) {
            kind = other.kind;
            size = other.size;
            zone = other.zone;
            soaked = other.soaked;
            state = other.state;
            fall = other.fall;
            top = other.top;
            need = other.need;
            melts = other.melts;
            mass = other.mass;
        }

        void makeRaw() {
            soaked = 0;
            state = RAW;
        }

        boolean isSpoiled() {
            return state == CRACKED || state == SLUMPED;
        }

        boolean isUnder(int asked) {
            int k = kind;
            for (int depth = 0; depth < KINDS && k >= 0 && k < KINDS; depth++) {
                if (k == asked) {
                    return true;
                }
                k = KIND_ABOVE[k];
            }
            return false;
        }

        int riseFrom(int from) {
            int thinRise = POT_RISE - 8 * size;
            switch (kind) {
                case THIN: return thinRise;
                case GLAZED:
                case LINED: return from >= 600 ? thinRise - 30 : thinRise;
                case HOLLOW: return from < 200 ? POT_RISE / 3 : POT_RISE;
                default: return POT_RISE;
            }
        }

        private static int fallOf(int kind) {
            switch (kind) {
                case BRICK:
                case HOLLOW: return POT_FALL / 2;
                case GLAZED: return POT_FALL - 20;
                default: return POT_FALL;
            }
        }

        private static int topOf(int kind) {
            switch (kind) {
                case BRICK:
                case HOLLOW: return POT_TOP + 100;
                case GLAZED:
                case LINED: return POT_TOP + 200;
                default: return POT_TOP;
            }
        }

        private static int needOf(int kind, int size) {
            switch (kind) {
                case BRICK: return POT_NEED + size / 2;
                case HOLLOW: return POT_NEED + size / 2 - 1;
                default: return POT_NEED;
            }
        }

        private static int massOf(int kind, int size) {
            switch (kind) {
                case THIN:
                case GLAZED:
                case LINED: return size / 2;
                case BRICK:
                case HOLLOW: return 2 * size;
                default: return size;
            }
        }

        /** The state that the way from one heat to another spoils it to; RAW, if it bears it. */
        int harm(int from, int to) {
            if (to - from > riseFrom(from) || from - to > fall) {
                return CRACKED;
            }
            return to > melts ? SLUMPED : RAW;
        }

        /** Whether it becomes spoiled by it. */
        boolean undergo(int from, int to) {
            if (isSpoiled()) {
                return false;
            }
            int harm = harm(from, to);
            if (harm != RAW) {
                state = harm;
                return true;
            }
            if (to >= top) {
                soaked = Math.min(MOST_SOAKED, soaked + 1);
                if (soaked >= need) {
                    state = DONE;
                }
            }
            return false;
        }
    }

    /** All that a step changes, so that a step in thought is one of another kiln. */
    private static final class Kiln {
        final int[] heat = new int[ZONES];
        final int[] setting = new int[ZONES];
        final int[] mass = new int[ZONES];
        final Load[] loads = new Load[MOST_LOADS];
        int count = 0;
        int fuel = 0;
        int steps = 0;
        private final int[] behind = new int[ZONES];

        Kiln() {
            for (int z = 0; z < ZONES; z++) {
                heat[z] = ROOM_HEAT;
            }
            for (int i = 0; i < MOST_LOADS; i++) {
                loads[i] = new Load();
            }
        }

        void become(Kiln other) {
            for (int z = 0; z < ZONES; z++) {
                heat[z] = other.heat[z];
                setting[z] = other.setting[z];
                mass[z] = other.mass[z];
            }
            for (int i = 0; i < other.count; i++) {
                loads[i].become(other.loads[i]);
            }
            count = other.count;
            fuel = other.fuel;
            steps = other.steps;
        }

        int bring(int kind, int size, int zone) {
            int number = count;
            if (number >= MOST_LOADS) {
                return FULL;
            }
            loads[number].begin(kind, size, zone);
            count++;
            weigh();
            return number;
        }

        /** Masses are kept, for they stay while steps go. */
        void weigh() {
            for (int z = 0; z < ZONES; z++) {
                mass[z] = 0;
            }
            for (int i = 0; i < count; i++) {
                mass[loads[i].zone] += loads[i].mass;
            }
        }

        /** The heat of a zone behind a step with a setting there; other settings don't matter to it. */
        int heatBehind(int zone, int itsSetting) {
            int h = heat[zone];
            int weight = 10 + mass[zone];
            int to = h - (h - ROOM_HEAT) / 40;
            if (weight > 0) {
                to += Burner.given(itsSetting, h) * 10 / weight;
            }
            if (zone > 0) {
                to += (heat[zone - 1] - h) / 8;
            }
            if (zone < ZONES - 1) {
                to += (heat[zone + 1] - h) / 8;
            }
            return Math.max(0, Math.min(MOST_HEAT, to));
        }

        /** The heats of a step alone, for what asks of no load. */
        void warm() {
            for (int z = 0; z < ZONES; z++) {
                behind[z] = heatBehind(z, setting[z]);
            }
            takeHeats();
        }

        /** A step: the loads that become spoiled by it, as bits. */
        int goStep() {
            for (int z = 0; z < ZONES; z++) {
                behind[z] = heatBehind(z, setting[z]);
                fuel += Burner.burnt(setting[z]);
            }
            int spoiled = 0;
            for (int i = 0; i < count; i++) {
                int z = loads[i].zone;
                if (loads[i].undergo(heat[z], behind[z])) {
                    spoiled |= 1 << i;
                }
            }
            takeHeats();
            steps++;
            return spoiled;
        }

        private void takeHeats() {
            for (int z = 0; z < ZONES; z++) {
                heat[z] = behind[z];
            }
        }

        void goCarefulStep() {
            setByCode(Math.max(0, carefulCode()));
            goStep();
        }

        /**
         * Within one step a zone's heat and loads hang on its own setting alone,
         * so the best of all 64 is the best of each zone beside the others.
         */
        int carefulCode() {
            int code = 0;
            for (int z = 0; z < ZONES; z++) {
                int s = carefulSetting(z);
                if (s == NONE) {
                    return NONE;
                }
                code = code * SETTINGS + s;
            }
            return code;
        }

        /** A higher setting burns more, so only one that is hotter takes a lower one's place. */
        private int carefulSetting(int zone) {
            int best = NONE;
            int most = NONE;
            for (int s = 0; s < SETTINGS; s++) {
                int to = heatBehind(zone, s);
                if (to > most && allBear(zone, to)) {
                    best = s;
                    most = to;
                }
            }
            return best;
        }

        private boolean allBear(int zone, int to) {
            for (int i = 0; i < count; i++) {
                Load it = loads[i];
                if (it.zone == zone && !it.isSpoiled() && it.harm(heat[zone], to) != RAW) {
                    return false;
                }
            }
            return true;
        }

        int code() {
            int code = 0;
            for (int z = 0; z < ZONES; z++) {
                code = code * SETTINGS + setting[z];
            }
            return code;
        }

        void setByCode(int code) {
            int rest = code;
            for (int z = ZONES - 1; z >= 0; z--) {
                setting[z] = rest & (SETTINGS - 1);
                rest >>= 2;
            }
        }

        int hottestZone() {
            int hottest = 0;
            for (int z = 1; z < ZONES; z++) {
                if (heat[z] > heat[hottest]) {
                    hottest = z;
                }
            }
            return hottest;
        }

        int bitsInZone(int zone) {
            int bits = 0;
            for (int i = 0; i < count; i++) {
                if (loads[i].zone == zone) {
                    bits |= 1 << i;
                }
            }
            return bits;
        }

        int bitsOfDone() {
            int bits = 0;
            for (int i = 0; i < count; i++) {
                if (loads[i].state == DONE) {
                    bits |= 1 << i;
                }
            }
            return bits;
        }

        int bitsOfSpoiled() {
            int bits = 0;
            for (int i = 0; i < count; i++) {
                if (loads[i].isSpoiled()) {
                    bits |= 1 << i;
                }
            }
            return bits;
        }

        boolean isAllDone() {
            return bitsOfDone() == (1 << count) - 1;
        }
    }

    /** Legs, each a setting a zone and a number of steps; without legs there is no course. */
    private static final class Course {
        private final int[] settings = new int[MOST_LEGS * ZONES];
        final int[] steps = new int[MOST_LEGS];
        int legs = 0;

        boolean isNone() {
            return legs == 0;
        }

        int settingOf(int leg, int zone) {
            return settings[leg * ZONES + zone];
        }

        void become(Course other) {
            legs = 0;
            append(other);
        }

        /** The count is taken ahead, for the other one may be this one. */
        void append(Course other) {
            int more = other.legs;
            for (int k = 0; k < more; k++) {
                addLeg(other.settingOf(k, 0), other.settingOf(k, 1), other.settingOf(k, 2), other.steps[k]);
            }
        }

        void addLeg(int first, int second, int third, int n) {
            if (legs >= MOST_LEGS) {
                return;
            }
            settings[legs * ZONES] = first;
            settings[legs * ZONES + 1] = second;
            settings[legs * ZONES + 2] = third;
            steps[legs] = n;
            legs++;
        }

        boolean isEven(int leg) {
            int s = settingOf(leg, 0);
            return s == settingOf(leg, 1) && s == settingOf(leg, 2);
        }

        int allSteps() {
            int all = 0;
            for (int k = 0; k < legs; k++) {
                all += steps[k];
            }
            return all;
        }
    }

    /** The tape, and how it is read as a course's text, one token after the other. */
    private static final class Tape {
        private static final int END = 0, WRONG = 1, SETTING = 2, TIMES = 3, NUMBER = 4, SLASH = 5, SEMICOLON = 6;

        final byte[] bytes = new byte[MOST_TAPE];
        int size = 0;
        private int token = END;
        private int value = 0;
        private int begin = 0;
        private int end = 0;

        void add(int b) {
            if (size < MOST_TAPE) {
                bytes[size] = (byte) b;
                size++;
            }
        }

        /** The fault's place, or NONE, and then the course is as the text tells. */
        int readCourse(Course into) {
            into.legs = 0;
            end = 0;
            nextToken();
            for (int k = 0; k < MOST_LEGS; k++) {
                if (!readLeg(into)) {
                    return begin;
                }
                if (token == END) {
                    return NONE;
                }
                if (token != SEMICOLON) {
                    return begin;
                }
                nextToken();
            }
            return begin;
        }

        private boolean readLeg(Course into) {
            if (token != SETTING) {
                return false;
            }
            int first = value;
            int second = value;
            int third = value;
            nextToken();
            if (token == SLASH) {
                if (!readSettingBehindSlash()) {
                    return false;
                }
                second = value;
                nextToken();
                if (!readSettingBehindSlash()) {
                    return false;
                }
                third = value;
                nextToken();
            }
            int steps = 1;
            if (token == TIMES) {
                nextToken();
                if (token != NUMBER) {
                    return false;
                }
                steps = value;
                nextToken();
            }
            into.addLeg(first, second, third, steps);
            return true;
        }

        private boolean readSettingBehindSlash() {
            if (token != SLASH) {
                return false;
            }
            nextToken();
            return token == SETTING;
        }

        private void nextToken() {
            begin = end;
            while (begin < size && isBlank(bytes[begin])) {
                begin++;
            }
            end = begin;
            if (begin >= size) {
                token = END;
            } else if (isLetter(bytes[begin])) {
                readWord();
            } else if (isDigit(bytes[begin])) {
                readNumber();
            } else {
                end = begin + 1;
                token = bytes[begin] == '/' ? SLASH : bytes[begin] == ';' ? SEMICOLON : WRONG;
            }
        }

        private void readWord() {
            while (end < size && isLetter(bytes[end])) {
                end++;
            }
            token = isWord("x") ? TIMES : WRONG;
            for (int s = 0; s < SETTINGS; s++) {
                if (isWord(Burner.word(s))) {
                    token = SETTING;
                    value = s;
                }
            }
        }

        private boolean isWord(String word) {
            if (end - begin != word.length()) {
                return false;
            }
            for (int i = 0; i < word.length(); i++) {
                if (bytes[begin + i] != word.charAt(i)) {
                    return false;
                }
            }
            return true;
        }

        private void readNumber() {
            while (end < size && isDigit(bytes[end])) {
                end++;
            }
            value = bytes[begin] - '0';
            token = end - begin == 1 && value >= 1 ? NUMBER : WRONG;
        }

        private static boolean isBlank(int b) {
            return b == 32 || b == 10;
        }

        private static boolean isLetter(int b) {
            return b >= 'a' && b <= 'z';
        }

        private static boolean isDigit(int b) {
            return b >= '0' && b <= '9';
        }
    }

    /** A course printed; the longest has 101 bytes, so a tape's room is enough. */
    private static final class Printed {
        final byte[] bytes = new byte[MOST_TAPE];
        int size = 0;

        void show(Course course) {
            size = 0;
            for (int k = 0; k < course.legs; k++) {
                if (k > 0) {
                    add(';');
                }
                showLeg(course, k);
            }
        }

        private void showLeg(Course course, int k) {
            addWord(Burner.word(course.settingOf(k, 0)));
            if (!course.isEven(k)) {
                add('/');
                addWord(Burner.word(course.settingOf(k, 1)));
                add('/');
                addWord(Burner.word(course.settingOf(k, 2)));
            }
            if (course.steps[k] > 1) {
                addWord(" x");
                add('0' + course.steps[k]);
            }
        }

        private void addWord(String word) {
            for (int i = 0; i < word.length(); i++) {
                add(word.charAt(i));
            }
        }

        private void add(int b) {
            if (size < MOST_TAPE) {
                bytes[size] = (byte) b;
                size++;
            }
        }

        boolean isSameAs(Tape tape) {
            if (size != tape.size) {
                return false;
            }
            for (int i = 0; i < size; i++) {
                if (bytes[i] != tape.bytes[i]) {
                    return false;
                }
            }
            return true;
        }
    }

    /** How a course went. */
    private static final class Firing {
        int gone = 0;
        int troubleAt = NONE;
        int troubled = NONE;

        void run(Kiln kiln, Course course, boolean strict) {
            gone = 0;
            troubleAt = NONE;
            troubled = NONE;
            for (int k = 0; k < course.legs; k++) {
                for (int z = 0; z < ZONES; z++) {
                    kiln.setting[z] = course.settingOf(k, z);
                }
                for (int i = 0; i < course.steps[k]; i++) {
                    note(kiln.goStep());
                    if (strict && troubleAt != NONE) {
                        return;
                    }
                }
            }
        }

        private void note(int spoiled) {
            gone++;
            if (spoiled != 0 && troubleAt == NONE) {
                troubleAt = gone;
                troubled = lowestBit(spoiled);
            }
        }

        private static int lowestBit(int bits) {
            for (int i = 0; i < MOST_LOADS; i++) {
                if ((bits >> i & 1) != 0) {
                    return i;
                }
            }
            return NONE;
        }
    }

    /** Seeks the plan; rows that begin alike share the steps of what is alike. */
    private static final class Planner {
        private final Kiln[] behindLegs = new Kiln[MOST_PLAN_LEGS + 1];
        private final int[] row = new int[MOST_PLAN_LEGS];
        final int[] bestRow = new int[MOST_PLAN_LEGS];
        int leastFuel = NONE;
        private int legs = 0;
        private int stepsALeg = 0;

        Planner() {
            for (int i = 0; i <= MOST_PLAN_LEGS; i++) {
                behindLegs[i] = new Kiln();
            }
        }

        void seek(Kiln now, int k, int n) {
            leastFuel = NONE;
            legs = Math.min(k, MOST_PLAN_LEGS);
            stepsALeg = n;
            if (now.bitsOfSpoiled() == 0) {
                behindLegs[0].become(now);
                behindLegs[0].fuel = 0;
                addLegBehind(0);
            }
        }

        /** Rows come in their order, so a later one must burn less to be better. */
        private void addLegBehind(int depth) {
            if (depth >= legs) {
                if (behindLegs[depth].isAllDone()) {
                    keepRow(behindLegs[depth].fuel);
                }
                return;
            }
            for (int s = 0; s < SETTINGS; s++) {
                int fuel = behindLegs[depth].fuel + ZONES * Burner.burnt(s) * stepsALeg;
                if (leastFuel != NONE && fuel >= leastFuel) {
                    return;
                }
                row[depth] = s;
                if (goLeg(depth, s)) {
                    addLegBehind(depth + 1);
                }
            }
        }

        private boolean goLeg(int depth, int setting) {
            Kiln it = behindLegs[depth + 1];
            it.become(behindLegs[depth]);
            for (int z = 0; z < ZONES; z++) {
                it.setting[z] = setting;
            }
            for (int i = 0; i < stepsALeg; i++) {
                if (it.goStep() != 0) {
                    return false;
                }
            }
            return true;
        }

        private void keepRow(int fuel) {
            leastFuel = fuel;
            for (int i = 0; i < legs; i++) {
                bestRow[i] = row[i];
            }
        }

        int digits() {
            int digits = 0;
            for (int i = 0; i < legs; i++) {
                digits = digits * 10 + bestRow[i];
            }
            return digits;
        }
    }

    /** A row of numbers of a sort; shorts are held as the ints that they are. */
    private static final class Sheet {
        static final int NO_SORT = -1;

        int sort = NO_SORT;
        int size = 0;
        final int[] items = new int[MOST_ITEMS];

        boolean isMissing() {
            return sort == NO_SORT;
        }

        void begin(int newSort, int n) {
            sort = newSort;
            size = n;
            for (int i = 0; i < MOST_ITEMS; i++) {
                items[i] = 0;
            }
        }

        /** Written so that no sum can wrap around. */
        boolean hasRun(int from, int n) {
            return from >= 0 && n >= 0 && from <= size && n <= size - from;
        }

        void write(int i, int v) {
            items[i] = sort == SHORTS ? (short) v : v;
        }
    }
}
