import java.util.ArrayList;
import java.util.Arrays;
import java.util.List;
import java.util.TreeMap;
import java.util.regex.Matcher;
import java.util.regex.Pattern;

/**
 * The document once more, as slowly and plainly as can be: draughts are tried one by one, changes and
 * turns are really made, and a FAULT is where a pattern of the grammar can't go on.
 */
final class PlainBoat {
    static final int BAD = -1, NOT = -2, FULL = -3, STATE = -5, VOID = Integer.MIN_VALUE;
    private static final int[] UNDER = {-1, 0, 0, 1, 2};
    private static final String[] WORDS = {"put", "move", "take", "fill", "wet"};
    private static final String ACT = "(put [a-z]{1,4}( [0-9]{1,3}){3} -?[0-9]{1,3} [0-9]{1,3}"
        + "|move [a-z]{1,4} [0-9]{1,3} -?[0-9]{1,3}|take [a-z]{1,4}|fill [0-9]{1,3} [0-9]{1,3}|wet [0-9]{1,3})";
    private static final Pattern TEXT = Pattern.compile(ACT + "(;" + ACT + ")*");

    private static final class Good {
        int name, kind, weight, section, side, up;

        Good copy() {
            Good g = new Good();
            g.name = name;
            g.kind = kind;
            g.weight = weight;
            g.section = section;
            g.side = side;
            g.up = up;
            return g;
        }
    }

    private static final class State {
        int n = 4, deep = 20, shell = 100, wet = 0;
        int[][] sections = new int[10][];
        TreeMap<Integer, Good> goods = new TreeMap<>();
        int[][] tanks = new int[4][4];

        State() {
            for (int i = 0; i < 10; i++) sections[i] = new int[] {10, 0};
        }

        State copy() {
            State s = new State();
            s.n = n;
            s.deep = deep;
            s.shell = shell;
            s.wet = wet;
            for (int i = 0; i < 10; i++) s.sections[i] = sections[i].clone();
            for (Good g : goods.values()) s.goods.put(g.name, g.copy());
            for (int i = 0; i < 4; i++) s.tanks[i] = tanks[i].clone();
            return s;
        }
    }

    private State s = new State();
    private State image = null;
    private final int[][] rows = new int[3][];
    private String tape = "";

    /** WATER of all at each DRAUGHT; null behind each change of THE HULL. */
    private int[] waters = null;

    private static boolean in(long v, long low, long high) {
        return low <= v && v <= high;
    }

    private static boolean named(int name) {
        return name > 0 && Integer.toString(name, 27).matches("[1-9a-q]{1,4}");
    }

    private boolean sectioned(int i) {
        return in(i, 0, s.n - 1);
    }

    int hull(int n) {
        waters = null;
        if (!in(n, 2, 10)) return BAD;
        int were = s.n;
        s = new State();
        s.n = n;
        return were;
    }

    int section(int i, int wide, int rise) {
        waters = null;
        if (!sectioned(i) || !in(wide, 1, 40) || !in(rise, 0, 30)) return BAD;
        int[] were = s.sections[i];
        s.sections[i] = new int[] {wide, rise};
        return 100 * were[0] + were[1];
    }

    int set(int what, int v) {
        waters = null;
        int was;
        if (what == 0 && in(v, 1, 60)) {
            was = s.deep;
            s.deep = v;
        } else if (what == 1 && in(v, 1, 9999)) {
            was = s.shell;
            s.shell = v;
        } else if (what == 2 && in(v, 0, 1)) {
            was = s.wet;
            s.wet = v;
        } else {
            was = BAD;
        }
        return was;
    }

    int put(int name, int kind, int weight, int section, int side, int up) {
        boolean good = named(name) && in(kind, 0, 4) && in(weight, 1, 999) && sectioned(section) && in(side, -20, 20) && in(up, 0, 40);
        if (!good) return BAD;
        if (s.goods.containsKey(name)) return STATE;
        if (s.goods.size() == 16) return FULL;
        Good g = new Good();
        g.name = name;
        g.kind = kind;
        g.weight = weight;
        g.section = section;
        g.side = side;
        g.up = up;
        s.goods.put(name, g);
        return s.goods.size();
    }

    private int weighs(Good g) {
        if (g.kind == 2) return s.wet == 1 ? g.weight + g.weight / 4 : g.weight;
        if (g.kind == 4) return (s.wet == 1 ? g.weight + g.weight / 4 : g.weight) + 3;
        return g.weight;
    }

    private static int rolls(Good g, int heel) {
        return g.kind == 1 ? heel / 32 : g.kind == 3 ? heel / 32 * 2 : 0;
    }

    int take(int name) {
        if (!named(name)) return BAD;
        Good g = s.goods.remove(name);
        return g == null ? NOT : weighs(g);
    }

    int move(int name, int section, int side) {
        if (!named(name) || !sectioned(section) || !in(side, -20, 20)) return BAD;
        Good g = s.goods.get(name);
        if (g == null) return NOT;
        int was = g.section;
        g.section = section;
        g.side = side;
        return was;
    }

    int goods(int name, int what) {
        Good g = s.goods.get(name);
        if (g == null || !in(what, 0, 6)) return VOID;
        int heel = heel(0);
        int[] all = {g.kind, g.weight, g.section, g.side, g.up, weighs(g), heel == VOID ? 0 : rolls(g, heel)};
        return all[what];
    }

    int taken(int name, int k) {
        if (!named(name) || !in(k, 0, 4)) return BAD;
        Good g = s.goods.get(name);
        if (g == null) return NOT;
        for (int kind = g.kind; kind >= 0; kind = UNDER[kind]) {
            if (kind == k) return g.weight;
        }
        return STATE;
    }

    int tank(int tank, int section, int breadth, int holds) {
        if (!in(tank, 0, 3) || !sectioned(section) || !in(breadth, 0, 20) || !in(holds, 0, 999)) return BAD;
        s.tanks[tank] = new int[] {section, breadth, holds, 0};
        return 1;
    }

    int fill(int tank, int v) {
        if (!in(tank, 0, 3) || v < 0) return BAD;
        int[] t = s.tanks[tank];
        if (t[1] == 0 || v > t[2]) return STATE;
        int had = t[3];
        t[3] = v;
        return had;
    }

    private int weight() {
        int all = s.shell;
        for (Good g : s.goods.values()) all += weighs(g);
        for (int[] t : s.tanks) all += t[3];
        return all;
    }

    private int along() {
        int all = s.shell * (s.n - 1);
        for (Good g : s.goods.values()) all += 2 * g.section * weighs(g);
        for (int[] t : s.tanks) all += 2 * t[0] * t[3];
        return all;
    }

    private int aside() {
        int all = 0;
        for (Good g : s.goods.values()) all += weighs(g) * g.side;
        return all;
    }

    private int aloft() {
        int all = 0;
        for (Good g : s.goods.values()) all += weighs(g) * g.up;
        for (int[] t : s.tanks) all += 2 * t[3];
        return all;
    }

    private int slack() {
        int all = 0;
        for (int[] t : s.tanks) if (t[3] != 0 && t[3] != t[2]) all++;
        return all;
    }

    private int leastRise() {
        int least = 99;
        for (int i = 0; i < s.n; i++) least = Math.min(least, s.sections[i][1]);
        return least;
    }

    private int righting() {
        int line = line();
        if (line == NOT) return VOID;
        int all = 0;
        for (int i = 0; i < s.n; i++) {
            int wide = s.sections[i][0];
            if (water(i, line) > 0) all += wide * wide * wide / 12;
        }
        for (int[] t : s.tanks) if (t[3] != 0 && t[3] != t[2]) all -= t[1] * t[1] * t[1] / 12;
        return all - aloft() / 16;
    }

    int told(int what) {
        if (!in(what, 0, 7)) return VOID;
        int[] all = {weight(), along(), aside(), aloft(), righting(), s.goods.size(), slack(), leastRise()};
        return all[what];
    }

    int water(int section, int p) {
        if (!in(section, -1, s.n - 1) || !in(p, -9999, 9999)) return VOID;
        if (section >= 0) {
            int held = p < 0 ? 0 : p > 64 * s.deep ? 64 * s.deep : p;
            int above = held - 64 * s.sections[section][1];
            return above > 0 ? above * s.sections[section][0] : 0;
        }
        int all = 0;
        for (int i = 0; i < s.n; i++) all += water(i, p);
        return all;
    }

    private int lineOf(int weight) {
        if (waters == null) {
            waters = new int[64 * s.deep + 1];
            for (int p = 0; p < waters.length; p++) waters[p] = water(-1, p);
        }
        for (int p = 0; p < waters.length; p++) {
            if (waters[p] >= 64 * weight) return p;
        }
        return NOT;
    }

    int line() {
        return lineOf(weight());
    }

    /** a and OFF of a slope; null: it is none. */
    private int[] slope(int b) {
        for (int a = 0; a <= 64 * s.deep + (s.n - 1) * Math.abs(b); a++) {
            int all = 0;
            int pull = 0;
            for (int i = 0; i < s.n; i++) {
                int water = water(i, a + b * (2 * i - s.n + 1));
                all += water;
                pull += water * 2 * i;
            }
            if (all >= 64 * weight()) return new int[] {a, pull - 64 * along()};
        }
        return null;
    }

    int trim(int what) {
        if (!in(what, 0, 2)) return VOID;
        int[] best = null;
        for (int b = -20; b <= 20; b++) {
            int[] found = slope(b);
            if (found == null) continue;
            if (best == null || isBetter(b, found[1], best[0], best[2])) best = new int[] {b, found[0], found[1]};
        }
        return best == null ? VOID : best[what];
    }

    private static boolean isBetter(int b, int off, int bestB, int bestOff) {
        if (Math.abs(off) != Math.abs(bestOff)) return Math.abs(off) < Math.abs(bestOff);
        if (Math.abs(b) != Math.abs(bestB)) return Math.abs(b) < Math.abs(bestB);
        return b < bestB;
    }

    int off(int b) {
        if (!in(b, -20, 20)) return VOID;
        int[] found = slope(b);
        return found == null ? VOID : found[1];
    }

    int heel(int k) {
        if (!in(k, 0, 20)) return VOID;
        int[] heels = heels();
        return heels == null ? VOID : heels[k];
    }

    private int[] heels() {
        int righting = righting();
        if (righting <= 0) return null;
        int[] heels = new int[22];
        heels[0] = 64 * aside() / righting;
        for (int k = 1; k < 22; k++) {
            int all = 0;
            for (Good g : s.goods.values()) {
                int side = g.side + rolls(g, heels[k - 1]);
                all += weighs(g) * (side < -20 ? -20 : side > 20 ? 20 : side);
            }
            heels[k] = 64 * all / righting;
        }
        return heels;
    }

    int steady() {
        int[] heels = heels();
        for (int k = 0; heels != null && k <= 20; k++) {
            if (heels[k] == heels[k + 1]) return k;
        }
        return NOT;
    }

    private boolean liesUpon(int weight, int d) {
        int line = lineOf(weight);
        return line == NOT || line - 64 * leastRise() > d;
    }

    int grounded(int d) {
        if (!in(d, 0, 9999)) return BAD;
        if (line() == NOT) return STATE;
        return liesUpon(weight(), d) ? 1 : 0;
    }

    int lighten(int d) {
        if (!in(d, 0, 9999)) return BAD;
        int less = 0;
        while (liesUpon(weight() - less, d)) less++;
        return less;
    }

    int more(int m) {
        if (!in(m, 0, 64 * s.deep)) return VOID;
        int most = 0;
        while (lineOf(most + 1) != NOT && lineOf(most + 1) <= m) most++;
        return most - weight();
    }

    private List<Good> ordered(int by) {
        List<Good> all = new ArrayList<>(s.goods.values());
        if (by == 0) all.sort((a, b) -> weighs(b) - weighs(a));
        if (by == 1) all.sort((a, b) -> b.up - a.up);
        if (by != 3) return all;
        List<Good> came = new ArrayList<>();
        while (!all.isEmpty()) {
            int sum = 0;
            for (Good g : came) sum += weighs(g) * g.side;
            int aside = sum;
            List<Good> rest = new ArrayList<>(all);
            rest.sort((a, b) -> {
                int one = Math.abs(aside + weighs(a) * a.side);
                int other = Math.abs(aside + weighs(b) * b.side);
                return one != other ? one - other : weighs(b) - weighs(a);
            });
            came.add(rest.get(0));
            all.remove(rest.get(0));
        }
        return came;
    }

    int order(int by, int k) {
        if (!in(by, 0, 3) || k < 0) return BAD;
        List<Good> all = ordered(by);
        return k < all.size() ? all.get(k).name : NOT;
    }

    int next(int name) {
        if (name != 0 && !named(name)) return BAD;
        Integer found = s.goods.higherKey(name);
        return found == null ? NOT : found;
    }

    int turn() {
        int least = Math.abs(aside());
        int best = NOT;
        for (Good g : s.goods.values()) {
            g.side = -g.side;
            if (Math.abs(aside()) < least) {
                least = Math.abs(aside());
                best = g.name;
            }
            g.side = -g.side;
        }
        return best;
    }

    int change(int what) {
        if (!in(what, 0, 1)) return BAD;
        int[] found = slope(0);
        if (found == null) return NOT;
        // ALL WEIGHT stays, so the WATER of slope 0 stays, too.
        int pull = found[1] + 64 * along();
        int least = Math.abs(found[1]);
        int best = NOT;
        for (Good one : s.goods.values()) {
            for (Good other : s.goods.values()) {
                exchange(one, other);
                int changed = Math.abs(pull - 64 * along());
                exchange(one, other);
                if (changed < least) {
                    least = changed;
                    best = what == 0 ? one.name : other.name;
                }
            }
        }
        return best;
    }

    private static void exchange(Good one, Good other) {
        int section = one.section;
        one.section = other.section;
        other.section = section;
    }

    private int[] landing() {
        List<Good> all = ordered(0);
        int[] lines = new int[all.size() + 1];
        int weight = weight();
        for (int i = 0; i < lines.length; i++) {
            lines[i] = lineOf(weight);
            if (i < all.size()) weight -= weighs(all.get(i));
        }
        return lines;
    }

    int fits(int row, int m, int name, int what) {
        if (!in(row, 0, 2) || !in(m, 0, 17) || !named(name) || !in(what, 0, 1)) return BAD;
        Good g = s.goods.get(name);
        if (g == null) return NOT;
        if (rows[row] == null) return -11;
        if (rows[row].length < m) return -13;
        if (s.goods.size() + 1 < m) return STATE;
        int was = g.weight;
        int many = 0;
        int least = NOT;
        for (g.weight = 1; g.weight <= 999; g.weight++) {
            if (!Arrays.equals(Arrays.copyOf(landing(), m), Arrays.copyOf(rows[row], m))) continue;
            if (many == 0) least = g.weight;
            many++;
        }
        g.weight = was;
        return what == 0 ? many : least;
    }

    private String report() {
        StringBuilder signs = new StringBuilder();
        for (Good g : s.goods.values()) {
            signs.append(Desk.letters(g.name)).append("ckwgf".charAt(g.kind)).append(g.weight).append('@').append(g.section);
            if (g.side != 0) signs.append(g.side < 0 ? "l" : "r").append(Math.abs(g.side));
            signs.append(';');
        }
        return signs.toString();
    }

    int say(int i) {
        String report = report();
        if (i < -1) return BAD;
        if (i == -1) return report.length();
        return i < report.length() ? report.charAt(i) : NOT;
    }

    int feed(int letter) {
        if (!in(letter, 32, 126)) return BAD;
        if (tape.length() == 80) return FULL;
        tape += (char) letter;
        return tape.length();
    }

    int wipe() {
        int had = tape.length();
        tape = "";
        return had;
    }

    /** The place of the FAULT, or -1. */
    static int fault(String text) {
        int start = 0;
        for (String part : text.split(";", -1)) {
            int letters = 0;
            while (letters < part.length() && part.charAt(letters) >= 'a' && part.charAt(letters) <= 'z') letters++;
            // What stands ahead of this part may be at fault itself: then that comes first.
            if (goesOn(text.substring(0, start)) && !Arrays.asList(WORDS).contains(part.substring(0, letters))) return start;
            for (int i = start; i <= start + part.length() && i < text.length(); i++) {
                if (!goesOn(text.substring(0, i + 1))) return i;
            }
            start += part.length() + 1;
        }
        return TEXT.matcher(text).matches() ? -1 : text.length();
    }

    private static boolean goesOn(String text) {
        Matcher m = TEXT.matcher(text);
        return m.matches() || m.hitEnd();
    }

    int read() {
        String text = tape;
        tape = "";
        int fault = fault(text);
        if (fault >= 0) return -100 - fault;
        int done = 0;
        for (String act : text.split(";")) {
            if (doAct(act.split(" ")) < 0) return -200 - done;
            done++;
        }
        return done;
    }

    private int doAct(String[] w) {
        int[] n = new int[w.length];
        for (int i = 1; i < w.length; i++) n[i] = w[i].matches("-?[0-9]+") ? Integer.parseInt(w[i]) : Desk.name(w[i]);
        if (w[0].equals("put")) return put(n[1], n[2], n[3], n[4], n[5], n[6]);
        if (w[0].equals("move")) return move(n[1], n[2], n[3]);
        if (w[0].equals("take")) return take(n[1]);
        return w[0].equals("fill") ? fill(n[1], n[2]) : set(2, n[1]);
    }

    int row(int row, int n) {
        if (!in(row, 0, 2) || n > 40) return BAD;
        if (n < -1) return -14;
        rows[row] = n == -1 ? null : new int[n];
        return 1;
    }

    int store(int row, int i, int v) {
        if (!in(row, 0, 2)) return BAD;
        if (rows[row] == null) return -11;
        if (!in(i, 0, rows[row].length - 1)) return -13;
        rows[row][i] = v;
        return 1;
    }

    int get(int row, int i) {
        if (!in(row, 0, 2) || rows[row] == null || !in(i, 0, rows[row].length - 1)) return VOID;
        return rows[row][i];
    }

    int film(int row) {
        if (!in(row, 0, 2)) return BAD;
        rows[row] = landing();
        return rows[row].length;
    }

    int image() {
        image = s.copy();
        return s.goods.size();
    }

    int undo() {
        waters = null;
        if (image == null) return STATE;
        s = image.copy();
        return s.goods.size();
    }

    int count(int what) {
        int tanks = 0;
        for (int[] t : s.tanks) if (t[1] > 0) tanks++;
        int[] all = {s.n, s.goods.size(), s.deep, s.shell, s.wet, tape.length(), tanks};
        return in(what, 0, 6) ? all[what] : BAD;
    }
}
