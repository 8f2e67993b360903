import java.util.Arrays;

/** A trim desk for boats. The words in capitals are those of the document. */
public final class BoatTrim {
    public static final int BAD = -1, NOT = -2, FULL = -3, STATE = -5, VOID = Integer.MIN_VALUE;

    private static final int MISSING = -11, OUTSIDE = -13, BELOW_NONE = -14;
    private static final int FAULT_BASE = -100, REFUSED_BASE = -200;

    private static final int MOST_SECTIONS = 10, FIRST_SECTIONS = 4;
    private static final int MOST_GOODS = 16, MOST_TANKS = 4;
    private static final int MOST_WEIGHT = 999, MOST_SIDE = 20, MOST_UP = 40;
    private static final int MOST_DEPTH = 9999, MOST_SLOPE = 20, MOST_ROUNDS = 20;
    private static final int PARTS = 64, LEVEL = 0;
    private static final int LETTERS = 4, DIGITS = 27, LAST_NAME = 531440;

    private static final int CASE = 0, CASK = 1, WOOL = 2, KEG = 3, FELT = 4;
    private static final int[] UNDER = {-1, CASE, CASE, CASK, WOOL};
    private static final char[] KIND_SIGNS = {'c', 'k', 'w', 'g', 'f'};

    private static final int BY_WEIGHT = 0, BY_UP = 1, BY_NAMES = 2, BALANCED = 3;
    private static final int PUT = 0, MOVE = 1, TAKE = 2, FILL = 3, WET = 4;

    private final Boat boat = new Boat();
    private final Boat kept = new Boat();
    private boolean isKept = false;
    private final Rows rows = new Rows();
    private final Tape tape = new Tape();
    private final Orders orders = new Orders();
    private final Trim trims = new Trim();
    private final Swap swap = new Swap();
    private final Landing landing = new Landing();
    private final Report report = new Report();

    public BoatTrim() {
        boat.makeAsAtFirst(FIRST_SECTIONS);
    }

    // ---- the hull

    public int hull(int n) {
        if (!isWithin(n, 2, MOST_SECTIONS)) return BAD;
        int were = boat.hull.sections;
        boat.makeAsAtFirst(n);
        return were;
    }

    public int section(int section, int wide, int rise) {
        if (!boat.hull.hasSection(section) || !isWithin(wide, 1, 40) || !isWithin(rise, 0, 30)) return BAD;
        int were = 100 * boat.hull.wide[section] + boat.hull.rise[section];
        boat.hull.wide[section] = wide;
        boat.hull.rise[section] = rise;
        return were;
    }

    public int set(int what, int v) {
        switch (what) {
            case 0: return setDeep(v);
            case 1: return setShell(v);
            case 2: return setWet(v);
            default: return BAD;
        }
    }

    private int setDeep(int v) {
        if (!isWithin(v, 1, 60)) return BAD;
        int was = boat.hull.deep;
        boat.hull.deep = v;
        return was;
    }

    private int setShell(int v) {
        if (!isWithin(v, 1, 9999)) return BAD;
        int was = boat.hull.shell;
        boat.hull.shell = v;
        return was;
    }

    private int setWet(int v) {
        if (!isWithin(v, 0, 1)) return BAD;
        int was = boat.hull.wet;
        boat.hull.wet = v;
        return was;
    }

    // ---- goods and tanks

    public int put(int name, int kind, int weight, int section, int side, int up) {
        if (!isName(name) || !isKind(kind) || !isWithin(weight, 1, MOST_WEIGHT)) return BAD;
        if (!boat.hull.hasSection(section) || !isSide(side) || !isWithin(up, 0, MOST_UP)) return BAD;
        Cargo cargo = boat.cargo;
        if (cargo.placeOf(name) >= 0) return STATE;
        if (cargo.size >= MOST_GOODS) return FULL;
        int at = cargo.openPlace(name);
        cargo.kind[at] = kind;
        cargo.weight[at] = weight;
        cargo.section[at] = section;
        cargo.side[at] = side;
        cargo.up[at] = up;
        return cargo.size;
    }

    public int take(int name) {
        if (!isName(name)) return BAD;
        int at = boat.cargo.placeOf(name);
        if (at < 0) return NOT;
        int weighed = boat.weighsAt(at);
        boat.cargo.closePlace(at);
        return weighed;
    }

    public int move(int name, int section, int side) {
        if (!isName(name) || !boat.hull.hasSection(section) || !isSide(side)) return BAD;
        int at = boat.cargo.placeOf(name);
        if (at < 0) return NOT;
        int was = boat.cargo.section[at];
        boat.cargo.section[at] = section;
        boat.cargo.side[at] = side;
        return was;
    }

    public int goods(int name, int what) {
        if (!isName(name)) return VOID;
        int at = boat.cargo.placeOf(name);
        if (at < 0) return VOID;
        switch (what) {
            case 0: return boat.cargo.kind[at];
            case 1: return boat.cargo.weight[at];
            case 2: return boat.cargo.section[at];
            case 3: return boat.cargo.side[at];
            case 4: return boat.cargo.up[at];
            case 5: return boat.weighsAt(at);
            case 6: return rollsOf(boat.cargo.kind[at], boat.heelBehind(0));
            default: return VOID;
        }
    }

    public int taken(int name, int k) {
        if (!isName(name) || !isKind(k)) return BAD;
        int at = boat.cargo.placeOf(name);
        if (at < 0) return NOT;
        return isOfKind(boat.cargo.kind[at], k) ? boat.cargo.weight[at] : STATE;
    }

    public int tank(int tank, int section, int breadth, int holds) {
        if (!isTank(tank) || !boat.hull.hasSection(section)) return BAD;
        if (!isWithin(breadth, 0, 20) || !isWithin(holds, 0, 999)) return BAD;
        boat.tanks.section[tank] = section;
        boat.tanks.breadth[tank] = breadth;
        boat.tanks.holds[tank] = holds;
        boat.tanks.has[tank] = 0;
        return 1;
    }

    public int fill(int tank, int v) {
        if (!isTank(tank) || v < 0) return BAD;
        if (boat.tanks.holds[tank] < v || !boat.tanks.isThere(tank)) return STATE;
        int had = boat.tanks.has[tank];
        boat.tanks.has[tank] = v;
        return had;
    }

    // ---- how it lies

    public int told(int what) {
        switch (what) {
            case 0: return boat.allWeight();
            case 1: return boat.allAlong();
            case 2: return boat.allAside();
            case 3: return boat.allAloft();
            case 4: return boat.allRighting();
            case 5: return boat.cargo.size;
            case 6: return boat.tanks.howManySlack();
            case 7: return boat.hull.leastRise();
            default: return VOID;
        }
    }

    public int water(int section, int p) {
        if (!isWithin(p, -MOST_DEPTH, MOST_DEPTH)) return VOID;
        if (section == -1) return boat.hull.waterOfSlope(p, LEVEL);
        return boat.hull.hasSection(section) ? boat.hull.waterAt(section, p) : VOID;
    }

    public int line() {
        return boat.hull.startOf(LEVEL, boat.allWeight());
    }

    public int trim(int what) {
        if (!isWithin(what, 0, 2) || !trims.find(boat)) return VOID;
        if (what == 0) return trims.slope;
        return what == 1 ? trims.start : trims.off;
    }

    public int off(int b) {
        return isWithin(b, -MOST_SLOPE, MOST_SLOPE) ? boat.offOf(b) : VOID;
    }

    public int heel(int k) {
        return isWithin(k, 0, MOST_ROUNDS) ? boat.heelBehind(k) : VOID;
    }

    public int steady() {
        return boat.roundsTillSteady();
    }

    public int grounded(int d) {
        if (!isWithin(d, 0, MOST_DEPTH)) return BAD;
        int line = boat.hull.startOf(LEVEL, boat.allWeight());
        if (line == NOT) return STATE;
        return line - PARTS * boat.hull.leastRise() > d ? 1 : 0;
    }

    public int lighten(int d) {
        if (!isWithin(d, 0, MOST_DEPTH)) return BAD;
        int carried = boat.hull.carriedAt(d + PARTS * boat.hull.leastRise());
        return Math.max(0, boat.allWeight() - carried);
    }

    public int more(int m) {
        if (!isWithin(m, 0, boat.hull.top())) return VOID;
        return boat.hull.carriedAt(m) - boat.allWeight();
    }

    // ---- orders

    public int order(int by, int k) {
        if (!isWithin(by, BY_WEIGHT, BALANCED) || k < 0) return BAD;
        if (k >= boat.cargo.size) return NOT;
        orders.arrange(boat, by);
        return boat.cargo.name[orders.places[k]];
    }

    public int next(int name) {
        if (name != 0 && !isName(name)) return BAD;
        int at = boat.cargo.placeBehind(name);
        return at < boat.cargo.size ? boat.cargo.name[at] : NOT;
    }

    public int turn() {
        int at = boat.bestToTurn();
        return at < 0 ? NOT : boat.cargo.name[at];
    }

    public int change(int what) {
        if (!isWithin(what, 0, 1)) return BAD;
        if (!swap.find(boat)) return NOT;
        return boat.cargo.name[what == 0 ? swap.one : swap.other];
    }

    public int fits(int row, int m, int name, int what) {
        if (!isRow(row) || !isWithin(m, 0, MOST_GOODS + 1) || !isName(name) || !isWithin(what, 0, 1)) return BAD;
        int at = boat.cargo.placeOf(name);
        if (at < 0) return NOT;
        if (rows.isMissing(row)) return MISSING;
        if (m > rows.size[row]) return OUTSIDE;
        if (m > boat.cargo.size + 1) return STATE;
        landing.want(boat.hull, rows.places[row], m);
        landing.tryWeights(boat, orders, at);
        return what == 0 ? landing.fitting : landing.leastFitting;
    }

    // ---- the report and the tape

    public int say(int i) {
        if (i < -1) return BAD;
        report.write(boat.cargo);
        if (i == -1) return report.length;
        return i < report.length ? report.signs[i] : NOT;
    }

    public int feed(int letter) {
        if (!isWithin(letter, 32, 126)) return BAD;
        if (tape.length >= tape.bytes.length) return FULL;
        tape.bytes[tape.length] = (byte) letter;
        tape.length++;
        return tape.length;
    }

    public int wipe() {
        int had = tape.length;
        tape.length = 0;
        return had;
    }

    public int read() {
        int fault = tape.findFault();
        int answer = fault >= 0 ? FAULT_BASE - fault : doAllActs();
        tape.length = 0;
        return answer;
    }

    private int doAllActs() {
        tape.at = 0;
        // Each ACT takes a byte at least, so there are never more than bytes.
        for (int done = 0; done < tape.length; done++) {
            if (!tape.readsAct() || doAct() < 0) return REFUSED_BASE - done;
            if (!tape.isPartedHere()) return done + 1;
            tape.at++;
        }
        return REFUSED_BASE;
    }

    private int doAct() {
        int[] part = tape.parts;
        switch (tape.act) {
            case PUT: return put(part[0], part[1], part[2], part[3], part[4], part[5]);
            case MOVE: return move(part[0], part[1], part[2]);
            case TAKE: return take(part[0]);
            case FILL: return fill(part[0], part[1]);
            default: return set(2, part[0]);
        }
    }

    // ---- rows and the image

    public int row(int row, int n) {
        if (!isRow(row) || n > Rows.MOST) return BAD;
        if (n < -1) return BELOW_NONE;
        rows.make(row, n);
        return 1;
    }

    public int store(int row, int i, int v) {
        if (!isRow(row)) return BAD;
        if (rows.isMissing(row)) return MISSING;
        if (!rows.hasPlace(row, i)) return OUTSIDE;
        rows.places[row][i] = v;
        return 1;
    }

    public int get(int row, int i) {
        if (!isRow(row) || !rows.hasPlace(row, i)) return VOID;
        return rows.places[row][i];
    }

    public int film(int row) {
        if (!isRow(row)) return BAD;
        int lines = boat.cargo.size + 1;
        rows.make(row, lines);
        landing.writeLines(boat, orders, rows.places[row]);
        return lines;
    }

    public int image() {
        kept.copyFrom(boat);
        isKept = true;
        return kept.cargo.size;
    }

    public int undo() {
        if (!isKept) return STATE;
        boat.copyFrom(kept);
        return boat.cargo.size;
    }

    public int count(int what) {
        switch (what) {
            case 0: return boat.hull.sections;
            case 1: return boat.cargo.size;
            case 2: return boat.hull.deep;
            case 3: return boat.hull.shell;
            case 4: return boat.hull.wet;
            case 5: return tape.length;
            case 6: return boat.tanks.howManyThere();
            default: return BAD;
        }
    }

    // ---- what is in its range

    private static boolean isWithin(int v, int least, int most) {
        return v >= least && v <= most;
    }

    private static int held(int v, int least, int most) {
        return Math.max(least, Math.min(v, most));
    }

    private static boolean isName(int number) {
        if (!isWithin(number, 1, LAST_NAME)) return false;
        int rest = number;
        for (int i = 0; i < LETTERS && rest > 0; i++) {
            if (rest % DIGITS == 0) return false;
            rest /= DIGITS;
        }
        return true;
    }

    private static boolean isKind(int kind) {
        return isWithin(kind, CASE, FELT);
    }

    private static boolean isSide(int side) {
        return isWithin(side, -MOST_SIDE, MOST_SIDE);
    }

    private static boolean isTank(int tank) {
        return isWithin(tank, 0, MOST_TANKS - 1);
    }

    private static boolean isRow(int row) {
        return isWithin(row, 0, Rows.COUNT - 1);
    }

    // ---- what a kind does

    private static boolean isOfKind(int kind, int wanted) {
        int at = kind;
        for (int i = 0; i < UNDER.length && isKind(at); i++) {
            if (at == wanted) return true;
            at = UNDER[at];
        }
        return false;
    }

    private static int rollsOf(int kind, int heel) {
        if (heel == VOID) return 0;
        switch (kind) {
            case CASK: return heel / 32;
            case KEG: return 2 * (heel / 32);
            default: return 0;
        }
    }

    private static int cubeByTwelve(int v) {
        return v * v * v / 12;
    }

    /** THE HULL: what it is made of, and how it lies in the water. */
    private static final class Hull {
        int sections = 0;
        int deep = 0;
        int shell = 0;
        int wet = 0;
        final int[] wide = new int[MOST_SECTIONS];
        final int[] rise = new int[MOST_SECTIONS];

        void makeAsAtFirst(int n) {
            sections = held(n, 2, MOST_SECTIONS);
            deep = 20;
            shell = 100;
            wet = 0;
            Arrays.fill(wide, 10);
            Arrays.fill(rise, 0);
        }

        void copyFrom(Hull other) {
            sections = other.sections;
            deep = other.deep;
            shell = other.shell;
            wet = other.wet;
            System.arraycopy(other.wide, 0, wide, 0, wide.length);
            System.arraycopy(other.rise, 0, rise, 0, rise.length);
        }

        boolean hasSection(int section) {
            return isWithin(section, 0, sections - 1);
        }

        int top() {
            return PARTS * deep;
        }

        int leastRise() {
            int least = rise[0];
            for (int i = 1; i < sections; i++) least = Math.min(least, rise[i]);
            return least;
        }

        int waterAt(int section, int p) {
            // A p below 0 needs no holding: no RISE is below 0.
            int above = Math.min(p, top()) - PARTS * rise[section];
            return above > 0 ? wide[section] * above : 0;
        }

        int draughtOf(int section, int a, int b) {
            return a + b * (2 * section - sections + 1);
        }

        int waterOfSlope(int a, int b) {
            int all = 0;
            for (int i = 0; i < sections; i++) all += waterAt(i, draughtOf(i, a, b));
            return all;
        }

        int pullOfSlope(int a, int b) {
            int all = 0;
            for (int i = 0; i < sections; i++) all += waterAt(i, draughtOf(i, a, b)) * 2 * i;
            return all;
        }

        /**
         * The a of slope b, found by halving, for WATER never falls as a grows; NOT: it sinks.
         * LINE is that of LEVEL: the same range, the same WATER.
         */
        int startOf(int b, int weight) {
            int low = 0;
            int high = top() + (sections - 1) * Math.abs(b);
            if (waterOfSlope(high, b) < PARTS * weight) return NOT;
            for (int i = 0; i < 32 && low < high; i++) {
                int middle = (low + high) / 2;
                if (waterOfSlope(middle, b) >= PARTS * weight) high = middle;
                else low = middle + 1;
            }
            return high;
        }

        /** The most ALL WEIGHT by which LINE is p or less. */
        int carriedAt(int p) {
            return waterOfSlope(p, LEVEL) / PARTS;
        }
    }

    /** GOODS, kept in the order of their NAMES, so that of like ones the first place comes first. */
    private static final class Cargo {
        int size = 0;
        final int[] name = new int[MOST_GOODS];
        final int[] kind = new int[MOST_GOODS];
        final int[] weight = new int[MOST_GOODS];
        final int[] section = new int[MOST_GOODS];
        final int[] side = new int[MOST_GOODS];
        final int[] up = new int[MOST_GOODS];

        void copyFrom(Cargo other) {
            size = other.size;
            copyPlaces(other, 0, 0, MOST_GOODS);
        }

        /** The first place whose NAME comes behind this one; size, if there is none. */
        int placeBehind(int told) {
            int at = 0;
            while (at < size && name[at] <= told) at++;
            return at;
        }

        int placeOf(int told) {
            for (int i = 0; i < size; i++) {
                if (name[i] == told) return i;
            }
            return -1;
        }

        /** Makes room for a NAME where it belongs; the caller has looked that one more has room. */
        int openPlace(int told) {
            int at = Math.min(placeBehind(told), MOST_GOODS - 1);
            copyPlaces(this, at, at + 1, Math.min(size, MOST_GOODS - 1) - at);
            size = Math.min(size + 1, MOST_GOODS);
            name[at] = told;
            return at;
        }

        void closePlace(int at) {
            copyPlaces(this, at + 1, at, size - at - 1);
            size--;
        }

        private void copyPlaces(Cargo from, int start, int target, int length) {
            System.arraycopy(from.name, start, name, target, length);
            System.arraycopy(from.kind, start, kind, target, length);
            System.arraycopy(from.weight, start, weight, target, length);
            System.arraycopy(from.section, start, section, target, length);
            System.arraycopy(from.side, start, side, target, length);
            System.arraycopy(from.up, start, up, target, length);
        }
    }

    /** TANKS; one of BREADTH 0 is none, and then HAS 0. */
    private static final class Tanks {
        static final int UP = 2;

        final int[] section = new int[MOST_TANKS];
        final int[] breadth = new int[MOST_TANKS];
        final int[] holds = new int[MOST_TANKS];
        final int[] has = new int[MOST_TANKS];

        void empty() {
            Arrays.fill(section, 0);
            Arrays.fill(breadth, 0);
            Arrays.fill(holds, 0);
            Arrays.fill(has, 0);
        }

        void copyFrom(Tanks other) {
            System.arraycopy(other.section, 0, section, 0, MOST_TANKS);
            System.arraycopy(other.breadth, 0, breadth, 0, MOST_TANKS);
            System.arraycopy(other.holds, 0, holds, 0, MOST_TANKS);
            System.arraycopy(other.has, 0, has, 0, MOST_TANKS);
        }

        boolean isThere(int tank) {
            return breadth[tank] > 0;
        }

        boolean isSlack(int tank) {
            return has[tank] != 0 && has[tank] != holds[tank];
        }

        int howManyThere() {
            int all = 0;
            for (int i = 0; i < MOST_TANKS; i++) all += isThere(i) ? 1 : 0;
            return all;
        }

        int howManySlack() {
            int all = 0;
            for (int i = 0; i < MOST_TANKS; i++) all += isSlack(i) ? 1 : 0;
            return all;
        }

        int lostRighting() {
            int all = 0;
            for (int i = 0; i < MOST_TANKS; i++) all += isSlack(i) ? cubeByTwelve(breadth[i]) : 0;
            return all;
        }
    }

    /** All that THE IMAGE holds, and what follows from it. */
    private static final class Boat {
        final Hull hull = new Hull();
        final Cargo cargo = new Cargo();
        final Tanks tanks = new Tanks();

        void makeAsAtFirst(int n) {
            hull.makeAsAtFirst(n);
            cargo.size = 0;
            tanks.empty();
        }

        void copyFrom(Boat other) {
            hull.copyFrom(other.hull);
            cargo.copyFrom(other.cargo);
            tanks.copyFrom(other.tanks);
        }

        int weighsAt(int at) {
            switch (cargo.kind[at]) {
                case WOOL: return woolWeighs(cargo.weight[at]);
                case FELT: return woolWeighs(cargo.weight[at]) + 3;
                default: return cargo.weight[at];
            }
        }

        private int woolWeighs(int weight) {
            return hull.wet == 1 ? weight + weight / 4 : weight;
        }

        int allWeight() {
            int all = hull.shell;
            for (int i = 0; i < cargo.size; i++) all += weighsAt(i);
            for (int i = 0; i < MOST_TANKS; i++) all += tanks.has[i];
            return all;
        }

        int allAlong() {
            int all = hull.shell * (hull.sections - 1);
            for (int i = 0; i < cargo.size; i++) all += weighsAt(i) * 2 * cargo.section[i];
            for (int i = 0; i < MOST_TANKS; i++) all += tanks.has[i] * 2 * tanks.section[i];
            return all;
        }

        int allAside() {
            return asideRolledBy(0);
        }

        int allAloft() {
            int all = 0;
            for (int i = 0; i < cargo.size; i++) all += weighsAt(i) * cargo.up[i];
            for (int i = 0; i < MOST_TANKS; i++) all += tanks.has[i] * Tanks.UP;
            return all;
        }

        /** ASIDE, as each one ROLLS from its SIDE by a HEEL; by a HEEL of 0 nothing ROLLS. */
        int asideRolledBy(int heel) {
            int all = 0;
            for (int i = 0; i < cargo.size; i++) {
                int side = held(cargo.side[i] + rollsOf(cargo.kind[i], heel), -MOST_SIDE, MOST_SIDE);
                all += weighsAt(i) * side;
            }
            return all;
        }

        int allRighting() {
            int line = hull.startOf(LEVEL, allWeight());
            if (line == NOT) return VOID;
            int all = 0;
            for (int i = 0; i < hull.sections; i++) {
                if (hull.waterAt(i, line) > 0) all += cubeByTwelve(hull.wide[i]);
            }
            return all - tanks.lostRighting() - allAloft() / 16;
        }

        private int heelRolledBy(int heel, int righting) {
            return righting > 0 ? PARTS * asideRolledBy(heel) / righting : VOID;
        }

        int heelBehind(int rounds) {
            // VOID, where it sinks, is below 0 too.
            int righting = allRighting();
            if (righting <= 0) return VOID;
            int heel = heelRolledBy(0, righting);
            for (int i = 0; i < rounds; i++) heel = heelRolledBy(heel, righting);
            return heel;
        }

        int roundsTillSteady() {
            int righting = allRighting();
            if (righting <= 0) return NOT;
            int heel = heelRolledBy(0, righting);
            for (int i = 0; i <= MOST_ROUNDS; i++) {
                int behind = heelRolledBy(heel, righting);
                if (behind == heel) return i;
                heel = behind;
            }
            return NOT;
        }

        /** OFF of a slope; VOID: this slope is none. */
        int offOf(int b) {
            int start = hull.startOf(b, allWeight());
            return start == NOT ? VOID : hull.pullOfSlope(start, b) - PARTS * allAlong();
        }

        int bestToTurn() {
            int aside = allAside();
            int least = Math.abs(aside);
            int best = -1;
            for (int i = 0; i < cargo.size; i++) {
                int turned = Math.abs(aside - 2 * weighsAt(i) * cargo.side[i]);
                if (turned < least) {
                    least = turned;
                    best = i;
                }
            }
            return best;
        }
    }

    /** TRIM: the slope that is least OFF. */
    private static final class Trim {
        int slope = 0;
        int start = 0;
        int off = 0;

        /** False: it sinks by each slope. */
        boolean find(Boat boat) {
            int weight = boat.allWeight();
            boolean isFound = false;
            for (int i = 0; i <= 2 * MOST_SLOPE; i++) {
                // 0, -1, 1, -2, 2, ..: so of like ones the first is the one that is wanted.
                int b = i % 2 == 0 ? i / 2 : -(i / 2) - 1;
                int found = boat.offOf(b);
                if (found != VOID && (!isFound || Math.abs(found) < Math.abs(off))) {
                    isFound = true;
                    slope = b;
                    start = boat.hull.startOf(b, weight);
                    off = found;
                }
            }
            return isFound;
        }
    }

    /** CHANGE: the two places of GOODS whose change of SECTIONS leaves slope 0 least OFF. */
    private static final class Swap {
        int one = 0;
        int other = 0;

        /** False: there are none, or it sinks. */
        boolean find(Boat boat) {
            int off = boat.offOf(LEVEL);
            if (off == VOID) return false;
            int least = Math.abs(off);
            boolean isFound = false;
            for (int i = 0; i < boat.cargo.size; i++) {
                for (int k = i + 1; k < boat.cargo.size; k++) {
                    int changed = Math.abs(off - PARTS * alongGained(boat, i, k));
                    if (changed < least) {
                        least = changed;
                        one = i;
                        other = k;
                        isFound = true;
                    }
                }
            }
            return isFound;
        }

        /** ALL WEIGHT stays, and so do slope 0's a and WATER: ALONG alone changes. */
        private int alongGained(Boat boat, int i, int k) {
            int further = boat.cargo.section[k] - boat.cargo.section[i];
            return 2 * further * (boat.weighsAt(i) - boat.weighsAt(k));
        }
    }

    /** ORDER: the places of GOODS, arranged. */
    private static final class Orders {
        final int[] places = new int[MOST_GOODS];
        private final int[] keys = new int[MOST_GOODS];

        void arrange(Boat boat, int by) {
            for (int i = 0; i < boat.cargo.size; i++) places[i] = i;
            if (by == BALANCED) balance(boat);
            else if (by != BY_NAMES) sort(boat, by);
        }

        private void sort(Boat boat, int by) {
            for (int i = 0; i < boat.cargo.size; i++) {
                keys[i] = by == BY_UP ? boat.cargo.up[i] : boat.weighsAt(i);
                int at = i;
                // Only past lesser ones: so like ones stay by NAMES.
                for (; at > 0 && keys[places[at - 1]] < keys[i]; at--) places[at] = places[at - 1];
                places[at] = i;
            }
        }

        private void balance(Boat boat) {
            int aside = 0;
            for (int came = 0; came < boat.cargo.size; came++) {
                int best = came;
                for (int i = came + 1; i < boat.cargo.size; i++) {
                    if (comesAhead(boat, aside, places[i], places[best])) best = i;
                }
                int chosen = places[best];
                places[best] = places[came];
                places[came] = chosen;
                aside += boat.weighsAt(chosen) * boat.cargo.side[chosen];
            }
        }

        private boolean comesAhead(Boat boat, int aside, int one, int other) {
            int oneWeighs = boat.weighsAt(one);
            int otherWeighs = boat.weighsAt(other);
            int oneAside = Math.abs(aside + oneWeighs * boat.cargo.side[one]);
            int otherAside = Math.abs(aside + otherWeighs * boat.cargo.side[other]);
            if (oneAside != otherAside) return oneAside < otherAside;
            return oneWeighs != otherWeighs ? oneWeighs > otherWeighs : one < other;
        }
    }

    /** LINES of a landing, and FITS: each wanted LINE is kept as the ALL WEIGHT that makes it. */
    private static final class Landing {
        private final int[] least = new int[MOST_GOODS + 1];
        private final int[] most = new int[MOST_GOODS + 1];
        private int wanted = 0;
        int fitting = 0;
        int leastFitting = NOT;

        /** The ROW has a place more than there are GOODS. */
        void writeLines(Boat boat, Orders orders, int[] row) {
            orders.arrange(boat, BY_WEIGHT);
            int weight = boat.allWeight();
            row[0] = boat.hull.startOf(LEVEL, weight);
            for (int i = 0; i < boat.cargo.size; i++) {
                weight -= boat.weighsAt(orders.places[i]);
                row[i + 1] = boat.hull.startOf(LEVEL, weight);
            }
        }

        void want(Hull hull, int[] row, int m) {
            wanted = m;
            for (int i = 0; i < m; i++) {
                int line = row[i];
                boolean isLine = isWithin(line, 0, hull.top());
                least[i] = hull.carriedAt(isLine ? line - 1 : hull.top()) + 1;
                most[i] = isLine ? hull.carriedAt(line) : Integer.MAX_VALUE;
                // No weight makes a LINE that is none.
                if (!isLine && line != NOT) most[i] = 0;
            }
        }

        /** Tries each WEIGHT of the one at this place, and leaves it as it was. */
        void tryWeights(Boat boat, Orders orders, int at) {
            int was = boat.cargo.weight[at];
            fitting = 0;
            leastFitting = NOT;
            for (int weight = 1; weight <= MOST_WEIGHT; weight++) {
                boat.cargo.weight[at] = weight;
                if (isSo(boat, orders)) {
                    if (fitting == 0) leastFitting = weight;
                    fitting++;
                }
            }
            boat.cargo.weight[at] = was;
        }

        private boolean isSo(Boat boat, Orders orders) {
            int weight = boat.allWeight();
            // The first LINE goes by no ORDER, and most weights fail by it.
            if (wanted > 0 && !isWithin(weight, least[0], most[0])) return false;
            orders.arrange(boat, BY_WEIGHT);
            for (int i = 0; i < wanted; i++) {
                if (!isWithin(weight, least[i], most[i])) return false;
                if (i < boat.cargo.size) weight -= boat.weighsAt(orders.places[i]);
            }
            return true;
        }
    }

    /** REPORT: of each of GOODS 14 signs at most. */
    private static final class Report {
        int length = 0;
        final char[] signs = new char[14 * MOST_GOODS];

        void write(Cargo cargo) {
            length = 0;
            for (int i = 0; i < cargo.size; i++) {
                addLetters(cargo.name[i]);
                addSign(KIND_SIGNS[cargo.kind[i]]);
                addFigures(cargo.weight[i]);
                addSign('@');
                addFigures(cargo.section[i]);
                addSide(cargo.side[i]);
                addSign(';');
            }
        }

        private void addLetters(int name) {
            for (int unit = DIGITS * DIGITS * DIGITS; unit > 0; unit /= DIGITS) {
                if (name >= unit) addSign((char) ('a' - 1 + name / unit % DIGITS));
            }
        }

        private void addFigures(int v) {
            for (int unit = 100; unit > 0; unit /= 10) {
                if (v >= unit || unit == 1) addSign((char) ('0' + v / unit % 10));
            }
        }

        private void addSide(int side) {
            if (side == 0) return;
            addSign(side < 0 ? 'l' : 'r');
            addFigures(Math.abs(side));
        }

        private void addSign(char sign) {
            if (length >= signs.length) return;
            signs[length] = sign;
            length++;
        }
    }

    /** ROWS 0 .. 2; one of size -1 is missing. */
    private static final class Rows {
        static final int COUNT = 3, MOST = 40;

        final int[] size = {-1, -1, -1};
        final int[][] places = new int[COUNT][MOST];

        void make(int row, int n) {
            size[row] = held(n, -1, MOST);
            Arrays.fill(places[row], 0);
        }

        boolean isMissing(int row) {
            return size[row] < 0;
        }

        boolean hasPlace(int row, int i) {
            return isWithin(i, 0, size[row] - 1);
        }
    }

    /** THE TAPE, and the reading of its TEXT from left to right. */
    private static final class Tape {
        int length = 0;
        final byte[] bytes = new byte[80];

        /** Where it reads. */
        int at = 0;

        /** The ACT read last, and its NAME and numbers as they stand. */
        int act = 0;
        final int[] parts = new int[6];

        /** The place of the FAULT; -1: it is a TEXT. What reads leaves `at` there, where it can't go on. */
        int findFault() {
            at = 0;
            for (int i = 0; i <= length; i++) {
                if (!readsAct()) return at;
                if (at >= length) return -1;
                if (!isPartedHere()) return at;
                at++;
            }
            return at;
        }

        boolean isPartedHere() {
            return isHere(';');
        }

        boolean readsAct() {
            if (!readsWord()) return false;
            String shape = shapeOf(act);
            for (int i = 0; i < shape.length() && i < parts.length; i++) {
                if (!isHere(' ')) return false;
                at++;
                if (!readsPart(i, shape.charAt(i))) return false;
            }
            return true;
        }

        private boolean readsWord() {
            int start = at;
            while (at < length && isLetterHere()) at++;
            for (int i = PUT; i <= WET; i++) {
                act = i;
                if (isWord(wordOf(i), start, at)) return true;
            }
            at = start;
            return false;
        }

        private boolean isWord(String word, int start, int end) {
            if (word.length() != end - start) return false;
            for (int i = 0; i < word.length(); i++) {
                if (bytes[start + i] != word.charAt(i)) return false;
            }
            return true;
        }

        private boolean readsPart(int part, char shape) {
            if (shape == 'a') return readsName(part);
            boolean isLess = shape == '-' && isHere('-');
            if (isLess) at++;
            return readsNumber(part, isLess ? -1 : 1);
        }

        private boolean readsName(int part) {
            int name = 0;
            int letters = 0;
            for (; at < length && isLetterHere(); at++) {
                if (letters == LETTERS) return false;
                name = name * DIGITS + bytes[at] - 'a' + 1;
                letters++;
            }
            parts[part] = name;
            return letters > 0;
        }

        private boolean readsNumber(int part, int sign) {
            int number = 0;
            int figures = 0;
            for (; at < length && isFigureHere(); at++) {
                if (figures == 3) return false;
                number = number * 10 + bytes[at] - '0';
                figures++;
            }
            parts[part] = sign * number;
            return figures > 0;
        }

        private boolean isHere(char sign) {
            return isWithin(at, 0, length - 1) && bytes[at] == sign;
        }

        private boolean isLetterHere() {
            return isWithin(at, 0, length - 1) && isWithin(bytes[at], 'a', 'z');
        }

        private boolean isFigureHere() {
            return isWithin(at, 0, length - 1) && isWithin(bytes[at], '0', '9');
        }

        private static String wordOf(int act) {
            switch (act) {
                case PUT: return "put";
                case MOVE: return "move";
                case TAKE: return "take";
                case FILL: return "fill";
                default: return "wet";
            }
        }

        /** What stands behind the word: a NAME (a), a number (9), a number that may be below 0 (-). */
        private static String shapeOf(int act) {
            switch (act) {
                case PUT: return "a999-9";
                case MOVE: return "a9-";
                case TAKE: return "a";
                case FILL: return "99";
                default: return "9";
            }
        }
    }
}
