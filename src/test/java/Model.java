import java.util.ArrayList;
import java.util.Arrays;
import java.util.List;
import java.util.regex.Matcher;
import java.util.regex.Pattern;

/**
 * The document read a second time, as plainly as it can be and with the whole library:
 * kinds are classes, thoughts are copies, a plan and careful settings try every row.
 */
final class Model {
    static final int NONE = -1, BAD = -2, STATE = -3, FULL = -4;
    private static final String[] WORDS = {"off", "low", "mid", "full"};
    private static final Pattern TOKEN = Pattern.compile("[a-z]+|[0-9]+|[/;]|[^ \\n]", Pattern.DOTALL);

    static class Pot {
        int kind = 0, size, zone, soaked, state;

        int rises(int h) { return 120; }
        int falls() { return 80; }
        int top() { return 800; }
        int need() { return 2; }
        int melts() { return top() + 300; }
        int mass() { return size; }
        boolean spoiled() { return state > 1; }
    }

    static class Thin extends Pot {
        @Override int rises(int h) { return super.rises(h) - 8 * size; }
        @Override int mass() { return super.mass() / 2; }
    }

    static class Brick extends Pot {
        @Override int falls() { return super.falls() / 2; }
        @Override int top() { return super.top() + 100; }
        @Override int need() { return super.need() + size / 2; }
        @Override int mass() { return super.mass() * 2; }
    }

    static class Glazed extends Thin {
        @Override int rises(int h) { return super.rises(h) - (h >= 600 ? 30 : 0); }
        @Override int falls() { return super.falls() - 20; }
        @Override int top() { return super.top() + 200; }
    }

    static class Hollow extends Brick {
        @Override int rises(int h) { return h < 200 ? super.rises(h) / 3 : super.rises(h); }
        @Override int need() { return super.need() - 1; }
    }

    static class Lined extends Glazed {
        @Override int falls() { return super.falls() + 20; }
        @Override int melts() { return super.melts() + 200; }
    }

    private static Pot make(int kind, int size, int zone) {
        Pot made = switch (kind) {
            case 0 -> new Pot();
            case 1 -> new Thin();
            case 2 -> new Brick();
            case 3 -> new Glazed();
            case 4 -> new Hollow();
            default -> new Lined();
        };
        made.kind = kind;
        made.size = size;
        made.zone = zone;
        return made;
    }

    private static Pot copyOf(Pot p) {
        Pot q = make(p.kind, p.size, p.zone);
        q.soaked = p.soaked;
        q.state = p.state;
        return q;
    }

    record Leg(int a, int b, int c, int n) {
        int at(int zone) { return zone == 0 ? a : zone == 1 ? b : c; }
    }

    private int[] heat = {20, 20, 20};
    private int[] setting = {0, 0, 0};
    private List<Pot> loads = new ArrayList<>();
    private int fuel = 0;
    private int steps = 0;
    private List<List<Leg>> courses = new ArrayList<>(Arrays.asList(null, null, null, null));
    private Model image = null;
    private final StringBuilder tape = new StringBuilder();
    private final int[][] sheets = new int[4][];
    private final int[] sorts = {-1, -1, -1, -1};

    private Model thought() {
        Model m = new Model();
        m.heat = heat.clone();
        m.setting = setting.clone();
        for (Pot p : loads) {
            m.loads.add(copyOf(p));
        }
        m.fuel = fuel;
        m.steps = steps;
        m.courses = new ArrayList<>(courses);
        return m;
    }

    private static boolean in(int v, int lo, int hi) { return lo <= v && v <= hi; }
    private boolean isLoad(int load) { return in(load, 0, loads.size() - 1); }

    private static int give(int s, int h) {
        int g = s == 0 ? 0 : s == 1 ? 60 - h / 20 : s == 2 ? 120 - h / 15 : 200 - h / 10;
        return g < 0 ? 0 : g;
    }

    private static int burn(int s) { return s == 0 ? 0 : s == 1 ? 1 : s == 2 ? 3 : 6; }

    private int mass(int zone) { return loads.stream().filter(p -> p.zone == zone).mapToInt(Pot::mass).sum(); }

    private int bits(java.util.function.Predicate<Pot> which) {
        int bits = 0;
        for (int i = 0; i < loads.size(); i++) {
            bits |= which.test(loads.get(i)) ? 1 << i : 0;
        }
        return bits;
    }

    private int done() { return bits(p -> p.state == 1); }
    private int spoiled() { return bits(Pot::spoiled); }

    private int aStep() {
        int[] h = heat.clone();
        for (int z = 0; z < 3; z++) {
            int v = h[z] + give(setting[z], h[z]) * 10 / (10 + mass(z));
            for (int o = 0; o < 3; o++) {
                v += Math.abs(o - z) == 1 ? (h[o] - h[z]) / 8 : 0;
            }
            v -= (h[z] - 20) / 40;
            heat[z] = v < 0 ? 0 : v > 1300 ? 1300 : v;
            fuel += burn(setting[z]);
        }
        steps++;
        int before = spoiled();
        for (Pot p : loads) {
            int from = h[p.zone];
            int to = heat[p.zone];
            if (p.spoiled()) {
                continue;
            }
            if (to - from > p.rises(from) || from - to > p.falls()) {
                p.state = 2;
            } else if (to > p.melts()) {
                p.state = 3;
            } else if (to >= p.top()) {
                p.soaked = Math.min(99, p.soaked + 1);
                p.state = p.soaked >= p.need() ? 1 : p.state;
            }
        }
        return spoiled() & ~before;
    }

    int heat(int zone, int v) {
        if (!in(zone, 0, 2) || !in(v, 0, 1300)) return BAD;
        int was = heat[zone];
        heat[zone] = v;
        return was;
    }

    int setting(int zone, int v) {
        if (!in(zone, 0, 2) || !in(v, 0, 3)) return BAD;
        int was = setting[zone];
        setting[zone] = v;
        return was;
    }

    int zone(int zone, int what) {
        if (!in(zone, 0, 2) || !in(what, 0, 4)) return BAD;
        return new int[] {heat[zone], setting[zone], mass(zone), give(setting[zone], heat[zone]), bits(p -> p.zone == zone)}[what];
    }

    int gives(int setting, int heat) {
        return in(setting, 0, 3) && in(heat, 0, 1300) ? give(setting, heat) : BAD;
    }

    int load(int kind, int size, int zone) {
        if (!in(kind, 0, 5) || !in(size, 1, 9) || !in(zone, 0, 2)) return BAD;
        if (loads.size() == 8) return FULL;
        loads.add(make(kind, size, zone));
        return loads.size() - 1;
    }

    int of(int load, int what) {
        if (!isLoad(load) || !in(what, 0, 10)) return BAD;
        Pot p = loads.get(load);
        return new int[] {p.kind, p.size, p.zone, p.soaked, p.state, p.rises(heat[p.zone]), p.falls(), p.top(), p.need(), p.melts(), p.mass()}[what];
    }

    int rises(int load, int from) {
        return isLoad(load) && in(from, 0, 1300) ? loads.get(load).rises(from) : BAD;
    }

    int move(int load, int zone) {
        if (!isLoad(load) || !in(zone, 0, 2)) return BAD;
        int was = loads.get(load).zone;
        loads.get(load).zone = zone;
        return was;
    }

    int anew(int load) {
        if (!isLoad(load)) return BAD;
        int was = loads.get(load).state;
        loads.get(load).state = 0;
        loads.get(load).soaked = 0;
        return was;
    }

    int take() {
        if (loads.isEmpty()) return STATE;
        loads.remove(loads.size() - 1);
        return loads.size();
    }

    int taken(int load, int k) {
        if (!isLoad(load) || !in(k, 0, 5)) return BAD;
        Class<?> asked = make(k, 1, 0).getClass();
        return asked.isInstance(loads.get(load)) ? loads.get(load).size : -13;
    }

    int step(int n) {
        if (!in(n, 1, 60)) return BAD;
        if (steps + n > 9999) return STATE;
        int before = spoiled();
        for (int i = 0; i < n; i++) {
            aStep();
        }
        return spoiled() & ~before;
    }

    int next(int what) {
        if (!in(what, 0, 4)) return BAD;
        Model m = thought();
        int b = m.aStep();
        return new int[] {m.heat[0], m.heat[1], m.heat[2], b, m.done()}[what];
    }

    int may(int zone) {
        if (!in(zone, 0, 2)) return BAD;
        int bits = 0;
        for (int s = 0; s < 4; s++) {
            Model m = thought();
            m.setting[zone] = s;
            bits |= m.aStep() == 0 ? 1 << s : 0;
        }
        return bits;
    }

    int weakest(int zone) {
        if (!in(zone, 0, 2)) return BAD;
        int best = NONE;
        for (int i = loads.size() - 1; i >= 0; i--) {
            Pot p = loads.get(i);
            if (p.zone == zone && !p.spoiled() && (best == NONE || p.rises(heat[zone]) <= loads.get(best).rises(heat[zone]))) {
                best = i;
            }
        }
        return best;
    }

    int until(int zone, int v) {
        if (!in(zone, 0, 2) || !in(v, 0, 1300)) return BAD;
        Model m = thought();
        for (int n = 0; n <= 60; n++, m.aStep()) {
            if (m.heat[zone] >= v) return n;
        }
        return NONE;
    }

    int cool(int v) {
        if (!in(v, 0, 1300)) return BAD;
        Model m = thought();
        m.setting = new int[3];
        for (int n = 0; n <= 60; n++, m.aStep()) {
            if (Arrays.stream(m.heat).noneMatch(h -> h > v)) return n;
        }
        return NONE;
    }

    int feed(int n, long bytes) {
        if (!in(n, 1, 8)) return BAD;
        StringBuilder more = new StringBuilder();
        for (int i = 0; i < n; i++) {
            more.append((char) (bytes >> 8 * i & 0xFF));
        }
        if (more.chars().anyMatch(c -> c > 127)) return BAD;
        if (tape.length() + n > 120) return FULL;
        tape.append(more);
        return tape.length();
    }

    /**
     * What may stand next hangs on what stood: 'S' a setting first in its leg, '1' behind one
     * setting, 'a' '2' 'b' '3' through the next two, 'x' behind x, 'n' behind its number.
     */
    int course(int c) {
        if (!in(c, 0, 3)) return BAD;
        String text = tape.toString();
        tape.setLength(0);
        List<Leg> legs = new ArrayList<>();
        int[] s = new int[3];
        int n = 1;
        char at = 'S';
        Matcher tokens = TOKEN.matcher(text);
        while (tokens.find()) {
            String token = tokens.group();
            int fault = -100 - tokens.start();
            int word = Arrays.asList(WORDS).indexOf(token);
            if (at == 'S') {
                if (word < 0 || legs.size() == 6) return fault;
                Arrays.fill(s, word);
                n = 1;
                at = '1';
            } else if (at == 'a' || at == 'b') {
                if (word < 0) return fault;
                s[at == 'a' ? 1 : 2] = word;
                at = at == 'a' ? '2' : '3';
            } else if (at == 'x') {
                if (!token.matches("[1-9]")) return fault;
                n = Integer.parseInt(token);
                at = 'n';
            } else if (token.equals("/") && (at == '1' || at == '2')) {
                at = at == '1' ? 'a' : 'b';
            } else if (token.equals("x") && (at == '1' || at == '3')) {
                at = 'x';
            } else if (token.equals(";") && at != '2') {
                legs.add(new Leg(s[0], s[1], s[2], n));
                at = 'S';
            } else {
                return fault;
            }
        }
        if (at != '1' && at != '3' && at != 'n') return -100 - text.length();
        legs.add(new Leg(s[0], s[1], s[2], n));
        courses.set(c, legs);
        return legs.size();
    }

    int leg(int c, int k, int what) {
        if (!in(c, 0, 3) || !in(what, 0, 3)) return BAD;
        if (courses.get(c) == null) return STATE;
        if (!in(k, 0, courses.get(c).size() - 1)) return -12;
        Leg leg = courses.get(c).get(k);
        return what == 3 ? leg.n : leg.at(what);
    }

    private String text(int c) {
        List<String> texts = new ArrayList<>();
        for (Leg l : courses.get(c)) {
            boolean even = l.a == l.b && l.b == l.c;
            String words = even ? WORDS[l.a] : String.join("/", WORDS[l.a], WORDS[l.b], WORDS[l.c]);
            texts.add(l.n > 1 ? words + " x" + l.n : words);
        }
        return String.join(";", texts);
    }

    int print(int c, int k) {
        if (!in(c, 0, 3) || k < -1) return BAD;
        if (courses.get(c) == null) return STATE;
        String text = text(c);
        return k == -1 ? text.length() : k < text.length() ? text.charAt(k) : -12;
    }

    int spelled(int c) {
        if (!in(c, 0, 3)) return BAD;
        if (courses.get(c) == null) return STATE;
        return text(c).contentEquals(tape) ? 1 : 0;
    }

    int join(int a, int b) {
        if (!in(a, 0, 3) || !in(b, 0, 3)) return BAD;
        if (courses.get(a) == null || courses.get(b) == null) return STATE;
        List<Leg> both = new ArrayList<>(courses.get(a));
        both.addAll(courses.get(b));
        if (both.size() > 6) return FULL;
        courses.set(a, both);
        return both.size();
    }

    int clear(int c) {
        if (!in(c, 0, 3)) return BAD;
        if (courses.get(c) == null) return STATE;
        return courses.set(c, null).size();
    }

    int fire(int c, boolean strict) {
        if (!in(c, 0, 3)) return BAD;
        if (courses.get(c) == null) return STATE;
        if (steps + courses.get(c).stream().mapToInt(Leg::n).sum() > 9999) return STATE;
        int gone = 0;
        for (Leg l : courses.get(c)) {
            for (int i = 0; i < l.n; i++) {
                setting = new int[] {l.a, l.b, l.c};
                gone++;
                if (aStep() != 0 && strict) return gone;
            }
        }
        return gone;
    }

    int tries(int c, int what) {
        if (!in(c, 0, 3) || !in(what, 0, 8)) return BAD;
        if (courses.get(c) == null) return STATE;
        Model m = thought();
        int gone = 0;
        int[] first = {NONE, NONE, 0};
        for (Leg l : courses.get(c)) {
            for (int i = 0; i < l.n; i++) {
                m.setting = new int[] {l.a, l.b, l.c};
                gone++;
                int b = m.aStep();
                if (b != 0 && first[0] == NONE) {
                    int load = Integer.numberOfTrailingZeros(b);
                    first = new int[] {gone, load, m.loads.get(load).state};
                }
            }
        }
        return new int[] {m.fuel - fuel, first[0], first[1], first[2], m.spoiled(), m.done(), m.heat[0], m.heat[1], m.heat[2]}[what];
    }

    /** The row that is the plan, or null. */
    private int[] planned(int k, int n) {
        int[] best = null;
        int least = Integer.MAX_VALUE;
        for (int code = 0; spoiled() == 0 && code < 1 << 2 * k; code++) {
            int[] row = new int[k];
            for (int i = 0; i < k; i++) {
                row[i] = code >> 2 * (k - 1 - i) & 3;
            }
            Model m = thought();
            boolean trouble = false;
            for (int i = 0; i < k * n && !trouble; i++) {
                Arrays.fill(m.setting, row[i / n]);
                trouble = m.aStep() != 0;
            }
            boolean all = m.loads.stream().allMatch(p -> p.state == 1);
            if (!trouble && all && m.fuel - fuel < least) {
                least = m.fuel - fuel;
                best = row;
            }
        }
        return best;
    }

    private static int fuelOf(int[] row, int n) { return Arrays.stream(row).map(s -> 3 * burn(s) * n).sum(); }

    int plan(int k, int n, int what) {
        if (!in(k, 1, 4) || !in(n, 1, 6) || !in(what, 0, 1)) return BAD;
        int[] row = planned(k, n);
        if (row == null) return NONE;
        return what == 0 ? fuelOf(row, n) : Arrays.stream(row).reduce(0, (d, s) -> d * 10 + s);
    }

    int lay(int c, int k, int n) {
        if (!in(c, 0, 3) || !in(k, 1, 4) || !in(n, 1, 6)) return BAD;
        int[] row = planned(k, n);
        if (row == null) return STATE;
        courses.set(c, Arrays.stream(row).mapToObj(s -> new Leg(s, s, s, n)).toList());
        return fuelOf(row, n);
    }

    int wary() {
        int best = NONE;
        int most = -1;
        int least = 0;
        for (int code = 0; code < 64; code++) {
            Model m = thought();
            m.setting = new int[] {code / 16, code / 4 % 4, code % 4};
            if (m.aStep() != 0) continue;
            int sum = Arrays.stream(m.heat).sum();
            int burnt = m.fuel - fuel;
            if (sum > most || sum == most && burnt < least) {
                best = code;
                most = sum;
                least = burnt;
            }
        }
        return best;
    }

    int careful(int n, int what) {
        if (!in(n, 0, 30) || !in(what, 0, 6)) return BAD;
        Model m = thought();
        for (int i = 0; i < n; i++) {
            int code = m.wary();
            code = code == NONE ? 0 : code;
            m.setting = new int[] {code / 16, code / 4 % 4, code % 4};
            m.aStep();
        }
        int code = 16 * m.setting[0] + 4 * m.setting[1] + m.setting[2];
        return new int[] {m.fuel - fuel, m.done(), m.spoiled(), m.heat[0], m.heat[1], m.heat[2], code}[what];
    }

    private int[] filmed(int zone, int s, int n) {
        Model m = thought();
        m.setting[zone] = s;
        int[] row = new int[n];
        for (int i = 0; i < n; i++) {
            m.aStep();
            row[i] = m.heat[zone];
        }
        return row;
    }

    int tells(int sheet, int zone, int what) {
        if (!in(sheet, 0, 3) || !in(zone, 0, 2) || !in(what, 0, 1)) return BAD;
        int[] told = sheets[sheet];
        if (told == null) return -11;
        if (told.length > 12) return BAD;
        if (what == 0) return Arrays.mismatch(told, filmed(zone, setting[zone], told.length));
        int bits = 0;
        for (int s = 0; s < 4; s++) {
            bits |= Arrays.equals(told, filmed(zone, s, told.length)) ? 1 << s : 0;
        }
        return bits;
    }

    int film(int sheet, int zone, int n) {
        if (!in(sheet, 0, 3) || !in(zone, 0, 2) || !in(n, 0, 12)) return BAD;
        sheets[sheet] = filmed(zone, setting[zone], n);
        sorts[sheet] = 0;
        return n;
    }

    int drawn(int seed, int n, int what) {
        if (!in(n, 0, 40) || !in(what, 0, 3)) return BAD;
        Model m = thought();
        int z = seed;
        for (int i = 0; i < n; i++) {
            z = z * 1103515245 + 12345;
            m.setting[(z >>> 9) % 3] = (z >>> 20) % 4;
            m.aStep();
        }
        int hottest = m.heat[0] >= m.heat[1] && m.heat[0] >= m.heat[2] ? 0 : m.heat[1] >= m.heat[2] ? 1 : 2;
        return new int[] {m.fuel - fuel, m.done(), m.spoiled(), hottest}[what];
    }

    int image() {
        image = thought();
        return loads.size();
    }

    int back() {
        if (image == null) return STATE;
        Model m = image.thought();
        heat = m.heat;
        setting = m.setting;
        loads = m.loads;
        fuel = m.fuel;
        steps = m.steps;
        courses = m.courses;
        return loads.size();
    }

    int loads(int sheet, int sort, int from, int n) {
        if (!in(sheet, 0, 3) || !in(sort, 0, 1) || !in(n, 0, 8)) return BAD;
        if (sheets[sheet] == null) return -11;
        if (sorts[sheet] != sort) return -13;
        int came = 0;
        for (int i = 0; i < n; i++) {
            long at = from + 3L * i;
            if (at < 0 || at + 2 >= sheets[sheet].length) return -12;
            int p = (int) at;
            came += load(sheets[sheet][p], sheets[sheet][p + 1], sheets[sheet][p + 2]) >= 0 ? 1 : 0;
        }
        return came;
    }

    int count(int what) {
        if (!in(what, 0, 6)) return BAD;
        int there = 0;
        for (int c = 0; c < 4; c++) {
            there |= courses.get(c) != null ? 1 << c : 0;
        }
        return new int[] {loads.size(), fuel, steps, tape.length(), done(), spoiled(), there}[what];
    }

    int sheet(int sheet, int sort, int n) {
        if (!in(sheet, 0, 3) || !in(sort, -1, 1)) return BAD;
        if (sort >= 0 && n > 40) return BAD;
        if (sort >= 0 && n < 0) return -14;
        sheets[sheet] = sort < 0 ? null : new int[n];
        sorts[sheet] = sort;
        return 1;
    }

    int put(int sheet, int i, int v) {
        if (!in(sheet, 0, 3)) return BAD;
        if (sheets[sheet] == null) return -11;
        if (!in(i, 0, sheets[sheet].length - 1)) return -12;
        sheets[sheet][i] = sorts[sheet] == 0 ? (short) v : v;
        return 1;
    }

    int copy(int sheet, int i, int other, int j, int n) {
        if (!in(sheet, 0, 3) || !in(other, 0, 3)) return BAD;
        if (sheets[sheet] == null || sheets[other] == null) return -11;
        if (sorts[sheet] != sorts[other]) return -13;
        if (i < 0 || j < 0 || n < 0 || (long) i + n > sheets[sheet].length || (long) j + n > sheets[other].length) return -12;
        int[] were = sheets[sheet].clone();
        for (int k = 0; k < n; k++) {
            sheets[other][j + k] = were[i + k];
        }
        return n;
    }
}
