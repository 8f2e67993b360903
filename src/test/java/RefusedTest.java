import java.util.Arrays;
import java.util.Map;
import java.util.function.Supplier;

/**
 * "ANSWERS that are refusals (nothing changes but where it is told), of several the first as the call's words name them":
 * each promise's refusals, each on a laden desk that must be the same behind it.
 */
public final class RefusedTest {
    private static final int BAD = BoatTrim.BAD, NOT = BoatTrim.NOT, FULL = BoatTrim.FULL, STATE = BoatTrim.STATE, VOID = BoatTrim.VOID;
    private static final int LEAST = Integer.MIN_VALUE, MOST = Integer.MAX_VALUE;
    /** Below a; with a digit 0 last, in the midst, in the third place; five letters; numbers that wrap to a NAME in fewer bits. */
    private static final int[] NO_NAMES = {LEAST, -531440, -1, 0, 27, 702, 729, 730, 756, 19683, 19684, 19710, 20412, 531414, 531441,
        551881, (1 << 24) + 1, MOST};

    private interface Call {
        int on(BoatTrim x, int[] with);
    }

    private final Supplier<BoatTrim> desks;
    private final Map<String, String> whole;

    private RefusedTest(Supplier<BoatTrim> desks) {
        this.desks = desks;
        whole = Whole.of(desks.get());
    }

    private void refuses(String name, int due, Call call, int... with) {
        BoatTrim x = desks.get();
        String told = name + Arrays.toString(with);
        Due.is(told, call.on(x, with), due);
        Due.is(told + ", what it changed", Whole.differences(whole, Whole.of(x)), "");
    }

    /** One argument takes each of the wrong values, the others stay as they are. */
    private void refusesEach(String name, int due, Call call, int[] with, int place, int... wrong) {
        for (int value : wrong) {
            int[] changed = with.clone();
            changed[place] = value;
            refuses(name, due, call, changed);
        }
    }

    public static void main(String[] args) {
        RefusedTest laden = new RefusedTest(Laden::desk);
        laden.ofTheHull();
        laden.ofPut();
        laden.ofGoods();
        laden.ofTanks();
        laden.ofTheWater();
        laden.ofOrders();
        laden.ofFits();
        laden.ofTheTape();
        laden.ofRows();
        whatIsRefusedWhereItSinks();
        whatIsFull();
        whatANewDeskRefuses();
        whatAnUnsteadyDeskRefuses();
        Due.end();
    }

    private void ofTheHull() {
        refusesEach("2: hull", BAD, (x, w) -> x.hull(w[0]), new int[1], 0, LEAST, -4, -1, 0, 1, 11, 256 + 4, MOST);
        Call section = (x, w) -> x.section(w[0], w[1], w[2]);
        refusesEach("3: section", BAD, section, new int[] {0, 10, 5}, 0, LEAST, -1, 4, 9, 10, MOST);
        refusesEach("3: section", BAD, section, new int[] {3, 10, 5}, 1, LEAST, -1, 0, 41, MOST);
        refusesEach("3: section", BAD, section, new int[] {3, 10, 5}, 2, LEAST, -1, 31, MOST);
        Call set = (x, w) -> x.set(w[0], w[1]);
        refusesEach("4: set", BAD, set, new int[] {0, 1}, 0, LEAST, -1, 3, MOST);
        refusesEach("4: set", BAD, set, new int[] {0, 1}, 1, LEAST, -1, 0, 61, MOST);
        refusesEach("4: set", BAD, set, new int[] {1, 1}, 1, LEAST, -1, 0, 10000, MOST);
        refusesEach("4: set", BAD, set, new int[] {2, 1}, 1, LEAST, -1, 2, MOST);
        refusesEach("37: count", BAD, (x, w) -> x.count(w[0]), new int[1], 0, LEAST, -1, 7, MOST);
    }

    private void ofPut() {
        Call put = (x, w) -> x.put(w[0], w[1], w[2], w[3], w[4], w[5]);
        int[] good = {Laden.NOBODY, 0, 1, 0, 0, 0};
        refusesEach("5: put", BAD, put, good, 0, NO_NAMES);
        refusesEach("5: put", BAD, put, good, 1, LEAST, -1, 5, MOST);
        refusesEach("5: put", BAD, put, good, 2, LEAST, -1, 0, 1000, MOST);
        refusesEach("5: put", BAD, put, good, 3, LEAST, -1, 4, MOST);
        refusesEach("5: put", BAD, put, good, 4, LEAST, -21, 21, MOST);
        refusesEach("5: put", BAD, put, good, 5, LEAST, -1, 41, MOST);
        refuses("5: one of that NAME is there, put", STATE, put, Laden.CCC, 0, 1, 0, 0, 0);
        int[] there = {Laden.CCC, 0, 1, 0, 0, 0};
        for (int i = 1; i < there.length; i++) refusesEach("5: BAD ahead of STATE, put", BAD, put, there, i, -21, 1000);
    }

    private void ofGoods() {
        Call take = (x, w) -> x.take(w[0]);
        refusesEach("6: take", BAD, take, new int[1], 0, NO_NAMES);
        refusesEach("6: none of that NAME, take", NOT, take, new int[1], 0, Laden.NOBODY, 28, 531440);
        Call move = (x, w) -> x.move(w[0], w[1], w[2]);
        refusesEach("7: move", BAD, move, new int[3], 0, NO_NAMES);
        refusesEach("7: move", BAD, move, new int[] {Laden.A, 0, 0}, 1, LEAST, -1, 4, MOST);
        refusesEach("7: move", BAD, move, new int[] {Laden.A, 0, 0}, 2, LEAST, -21, 21, MOST);
        refuses("7: none of that NAME, move", NOT, move, Laden.NOBODY, 0, 0);
        refuses("7: BAD section ahead of NOT, move", BAD, move, Laden.NOBODY, 4, 0);
        refuses("7: BAD side ahead of NOT, move", BAD, move, Laden.NOBODY, 0, 21);
        Call goods = (x, w) -> x.goods(w[0], w[1]);
        refusesEach("8: goods", VOID, goods, new int[2], 0, NO_NAMES);
        refusesEach("8: goods", VOID, goods, new int[] {Laden.A, 0}, 1, LEAST, -1, 7, MOST);
        refusesEach("8: none of that NAME, goods", VOID, goods, new int[] {Laden.NOBODY, 0}, 1, 0, 1, 2, 3, 4, 5, 6);
        Call taken = (x, w) -> x.taken(w[0], w[1]);
        refusesEach("9: taken", BAD, taken, new int[2], 0, NO_NAMES);
        refusesEach("9: taken", BAD, taken, new int[] {Laden.A, 0}, 1, LEAST, -1, 5, MOST);
        refusesEach("9: none of that NAME, taken", NOT, taken, new int[] {Laden.NOBODY, 0}, 1, 0, 1, 2, 3, 4);
        refuses("9: BAD ahead of NOT, taken", BAD, taken, Laden.NOBODY, 5);
        refusesEach("9: a CASE is none, taken", STATE, taken, new int[] {Laden.A, 0}, 1, 1, 2, 3, 4);
        refusesEach("9: a CASK is none, taken", STATE, taken, new int[] {Laden.BB, 0}, 1, 2, 3, 4);
        refusesEach("9: a WOOL is none, taken", STATE, taken, new int[] {Laden.CCC, 0}, 1, 1, 3, 4);
        refusesEach("9: a KEG is none, taken", STATE, taken, new int[] {Laden.D, 0}, 1, 2, 4);
        refusesEach("9: a FELT is none, taken", STATE, taken, new int[] {Laden.E, 0}, 1, 1, 3);
        refusesEach("23: next", BAD, (x, w) -> x.next(w[0]), new int[1], 0, LEAST, -1, 27, 702, 729, 730, 756, 19683, 531441, MOST);
        refusesEach("23: none behind, next", NOT, (x, w) -> x.next(w[0]), new int[1], 0, Laden.CCC, 2272, 531440);
    }

    private void ofTanks() {
        Call tank = (x, w) -> x.tank(w[0], w[1], w[2], w[3]);
        int[] good = {0, 3, 4, 5};
        refusesEach("10: tank", BAD, tank, good, 0, LEAST, -1, 4, MOST);
        refusesEach("10: tank", BAD, tank, good, 1, LEAST, -1, 4, 9, MOST);
        refusesEach("10: tank", BAD, tank, good, 2, LEAST, -1, 21, MOST);
        refusesEach("10: tank", BAD, tank, good, 3, LEAST, -1, 1000, MOST);
        Call fill = (x, w) -> x.fill(w[0], w[1]);
        refusesEach("11: fill", BAD, fill, new int[] {0, 1}, 0, LEAST, -1, 4, MOST);
        refusesEach("11: fill", BAD, fill, new int[] {0, 1}, 1, LEAST, -1);
        refusesEach("11: it HOLDS less, fill", STATE, fill, new int[] {0, 1}, 1, 10, 999, 1000, MOST);
        refusesEach("11: there is none, fill", STATE, fill, new int[] {2, 0}, 1, 0, 1, 5, 6, MOST);
        refuses("11: BAD of one that isn't there, fill", BAD, fill, 2, -1);
        refuses("11: BAD of no TANK that would hold less, fill", BAD, fill, 4, MOST);
    }

    private void ofTheWater() {
        refusesEach("12: told", VOID, (x, w) -> x.told(w[0]), new int[1], 0, LEAST, -1, 8, MOST);
        Call water = (x, w) -> x.water(w[0], w[1]);
        refusesEach("13: water", VOID, water, new int[2], 0, LEAST, -2, 4, 9, MOST);
        refusesEach("13: water", VOID, water, new int[2], 1, LEAST, -10000, 10000, MOST);
        refusesEach("13: water of all", VOID, water, new int[] {-1, 0}, 1, LEAST, -10000, 10000, MOST);
        refusesEach("15: trim", VOID, (x, w) -> x.trim(w[0]), new int[1], 0, LEAST, -1, 3, MOST);
        refusesEach("16: off", VOID, (x, w) -> x.off(w[0]), new int[1], 0, LEAST, -21, 21, MOST);
        refusesEach("17: heel", VOID, (x, w) -> x.heel(w[0]), new int[1], 0, LEAST, -1, 21, MOST);
        refusesEach("19: grounded", BAD, (x, w) -> x.grounded(w[0]), new int[1], 0, LEAST, -1, 10000, MOST);
        refusesEach("20: lighten", BAD, (x, w) -> x.lighten(w[0]), new int[1], 0, LEAST, -1, 10000, MOST);
        refusesEach("21: more", VOID, (x, w) -> x.more(w[0]), new int[1], 0, LEAST, -1, 64 * 12 + 1, 9999, MOST);
    }

    private void ofOrders() {
        Call order = (x, w) -> x.order(w[0], w[1]);
        refusesEach("22: order", BAD, order, new int[2], 0, LEAST, -1, 4, MOST);
        for (int by = 0; by < 4; by++) {
            refusesEach("22: order", BAD, order, new int[] {by, 0}, 1, LEAST, -1);
            refusesEach("22: not so many, order", NOT, order, new int[] {by, 0}, 1, 5, 16, MOST);
        }
        refuses("22: BAD ahead of NOT, order", BAD, order, 4, MOST);
        refusesEach("25: change", BAD, (x, w) -> x.change(w[0]), new int[1], 0, LEAST, -1, 2, MOST);
        refusesEach("27: say", BAD, (x, w) -> x.say(w[0]), new int[1], 0, LEAST, -2);
        int length = Laden.desk().say(-1);
        refusesEach("27: it has not so many, say", NOT, (x, w) -> x.say(w[0]), new int[1], 0, length, length + 1, MOST);
    }

    private void ofFits() {
        Call fits = (x, w) -> x.fits(w[0], w[1], w[2], w[3]);
        int[] good = {0, 1, Laden.A, 0};
        refusesEach("26: fits", BAD, fits, good, 0, LEAST, -1, 3, MOST);
        refusesEach("26: fits", BAD, fits, good, 1, LEAST, -1, 18, MOST);
        refusesEach("26: fits", BAD, fits, good, 2, NO_NAMES);
        refusesEach("26: fits", BAD, fits, good, 3, LEAST, -1, 2, MOST);
        refuses("26: none of that NAME, fits", NOT, fits, 0, 1, Laden.NOBODY, 0);
        refuses("26: missing, fits", -11, fits, 1, 0, Laden.A, 0);
        refuses("26: not so many places, fits", -13, fits, 0, 4, Laden.A, 0);
        refuses("26: not so many places of none, fits", -13, fits, 2, 1, Laden.A, 1);
        int[] nobody = {1, 17, Laden.NOBODY, 0};
        refusesEach("26: BAD ahead of NOT, fits", BAD, fits, nobody, 0, -1, 3);
        refusesEach("26: BAD ahead of NOT, fits", BAD, fits, nobody, 1, -1, 18);
        refusesEach("26: BAD ahead of NOT, fits", BAD, fits, nobody, 3, -1, 2);
        refuses("26: NOT ahead of -11, fits", NOT, fits, nobody);
        refuses("26: NOT ahead of -13, fits", NOT, fits, 0, 17, Laden.NOBODY, 0);
        refuses("26: -11 ahead of STATE, fits", -11, fits, 1, 17, Laden.A, 0);
        refuses("26: -13 ahead of STATE, fits", -13, fits, 0, 17, Laden.A, 0);
    }

    private void ofTheTape() {
        refusesEach("28: feed", BAD, (x, w) -> x.feed(w[0]), new int[1], 0, LEAST, -1, 0, 10, 31, 127, 128, 255, 256 + 'a', MOST);
    }

    private void ofRows() {
        Call row = (x, w) -> x.row(w[0], w[1]);
        refusesEach("31: row", BAD, row, new int[2], 0, LEAST, -1, 3, MOST);
        refusesEach("31: row", BAD, row, new int[2], 1, 41, MOST);
        refusesEach("31: below -1, row", -14, row, new int[2], 1, LEAST, -3, -2);
        refusesEach("31: BAD ahead of -14, row", BAD, row, new int[] {0, -2}, 0, -1, 3);
        Call store = (x, w) -> x.store(w[0], w[1], w[2]);
        refusesEach("32: store", BAD, store, new int[] {0, 0, 7}, 0, LEAST, -1, 3, MOST);
        refusesEach("32: missing, store", -11, store, new int[] {1, 0, 7}, 1, LEAST, -1, 0, 39, MOST);
        refusesEach("32: no such place, store", -13, store, new int[] {0, 0, 7}, 1, LEAST, -1, 3, 39, 40, MOST);
        refusesEach("32: no such place of none, store", -13, store, new int[] {2, 0, 7}, 1, LEAST, -1, 0, MOST);
        Call get = (x, w) -> x.get(w[0], w[1]);
        refusesEach("33: get", VOID, get, new int[2], 0, LEAST, -1, 3, MOST);
        refusesEach("33: no such place, get", VOID, get, new int[2], 1, LEAST, -1, 3, 40, MOST);
        refusesEach("33: missing, get", VOID, get, new int[] {1, 0}, 1, LEAST, -1, 0, MOST);
        refusesEach("33: no such place of none, get", VOID, get, new int[] {2, 0}, 1, LEAST, -1, 0, MOST);
        refusesEach("34: film", BAD, (x, w) -> x.film(w[0]), new int[1], 0, LEAST, -1, 3, MOST);
    }

    private static void whatIsRefusedWhereItSinks() {
        RefusedTest sunk = new RefusedTest(Laden::sunk);
        sunk.refuses("12: RIGHTING, told", VOID, (x, w) -> x.told(w[0]), 4);
        sunk.refuses("14: line", NOT, (x, w) -> x.line());
        sunk.refusesEach("15: trim", VOID, (x, w) -> x.trim(w[0]), new int[1], 0, 0, 1, 2);
        sunk.refusesEach("16: off", VOID, (x, w) -> x.off(w[0]), new int[1], 0, -20, -1, 0, 1, 20);
        sunk.refusesEach("17: heel", VOID, (x, w) -> x.heel(w[0]), new int[1], 0, 0, 1, 20);
        sunk.refuses("18: steady", NOT, (x, w) -> x.steady());
        sunk.refusesEach("19: grounded", STATE, (x, w) -> x.grounded(w[0]), new int[1], 0, 0, 1, 9999);
        sunk.refusesEach("19: BAD ahead of STATE, grounded", BAD, (x, w) -> x.grounded(w[0]), new int[1], 0, -1, 10000);
        sunk.refusesEach("25: change", NOT, (x, w) -> x.change(w[0]), new int[1], 0, 0, 1);
        sunk.refusesEach("25: BAD ahead of NOT, change", BAD, (x, w) -> x.change(w[0]), new int[1], 0, -1, 2);
    }

    private static void whatIsFull() {
        RefusedTest full = new RefusedTest(Laden::full);
        Call put = (x, w) -> x.put(w[0], w[1], w[2], w[3], w[4], w[5]);
        full.refuses("5: sixteen, put", FULL, put, 531440, 0, 1, 0, 0, 0);
        full.refuses("5: sixteen, put ahead of all", FULL, put, 17, 4, 999, 3, -20, 40);
        full.refuses("5: STATE ahead of FULL, put", STATE, put, Laden.A, 0, 1, 0, 0, 0);
        int[] other = {531440, 0, 1, 0, 0, 0};
        full.refuses("5: BAD name ahead of FULL, put", BAD, put, 531441, 0, 1, 0, 0, 0);
        for (int i = 1; i < other.length; i++) full.refusesEach("5: BAD ahead of FULL, put", BAD, put, other, i, -21, 1000);
        full.refusesEach("22: not so many, order", NOT, (x, w) -> x.order(w[0], 16), new int[1], 0, 0, 1, 2, 3);
        full.refuses("26: -13 of seventeen, fits", -13, (x, w) -> x.fits(0, 17, Laden.A, 0));
        RefusedTest taped = new RefusedTest(RefusedTest::fullTape);
        taped.refusesEach("28: it has 80, feed", FULL, (x, w) -> x.feed(w[0]), new int[1], 0, 32, ';', 126);
        taped.refusesEach("28: BAD ahead of FULL, feed", BAD, (x, w) -> x.feed(w[0]), new int[1], 0, 31, 127);
    }

    private static BoatTrim fullTape() {
        BoatTrim x = Laden.desk();
        for (int i = x.count(5); i < 74; i += 6) Desk.feed(x, ";wet 0");
        while (x.count(5) < 80) x.feed('0');
        return x;
    }

    private static void whatANewDeskRefuses() {
        RefusedTest anew = new RefusedTest(BoatTrim::new);
        anew.refuses("36: there is none, undo", STATE, (x, w) -> x.undo());
        anew.refusesEach("6: none of that NAME, take", NOT, (x, w) -> x.take(w[0]), new int[1], 0, 1, 531440);
        anew.refusesEach("11: there is none, fill", STATE, (x, w) -> x.fill(w[0], 0), new int[1], 0, 0, 1, 2, 3);
        anew.refusesEach("22: not so many, order", NOT, (x, w) -> x.order(w[0], 0), new int[1], 0, 0, 1, 2, 3);
        anew.refusesEach("23: nothing aboard, next", NOT, (x, w) -> x.next(w[0]), new int[1], 0, 0, 1, 531440);
        anew.refuses("24: nothing aboard, turn", NOT, (x, w) -> x.turn());
        anew.refusesEach("25: nothing aboard, change", NOT, (x, w) -> x.change(w[0]), new int[1], 0, 0, 1);
        anew.refusesEach("27: nothing aboard, say", NOT, (x, w) -> x.say(w[0]), new int[1], 0, 0, 1, MOST);
        anew.refusesEach("32: missing, store", -11, (x, w) -> x.store(w[0], 0, 1), new int[1], 0, 0, 1, 2);
        anew.refusesEach("33: missing, get", VOID, (x, w) -> x.get(w[0], 0), new int[1], 0, 0, 1, 2);
        RefusedTest rowed = new RefusedTest(RefusedTest::deskWithALongRow);
        rowed.refuses("26: fewer than two LINES are there, fits", STATE, (x, w) -> x.fits(w[0], w[1], w[2], w[3]), 0, 3, Laden.A, 0);
        rowed.refuses("26: fewer than seventeen, fits", STATE, (x, w) -> x.fits(w[0], w[1], w[2], w[3]), 0, 17, Laden.A, 1);
    }

    private static BoatTrim deskWithALongRow() {
        BoatTrim x = new BoatTrim();
        x.put(Laden.A, 0, 1, 0, 0, 0);
        x.row(0, 40);
        return x;
    }

    /** It floats, and RIGHTING is below 0. */
    private static void whatAnUnsteadyDeskRefuses() {
        RefusedTest unsteady = new RefusedTest(() -> {
            BoatTrim x = new BoatTrim();
            x.put(Laden.D, 3, 200, 1, 9, 40);
            return x;
        });
        unsteady.refuses("18: steady", NOT, (x, w) -> x.steady());
        unsteady.refusesEach("17: heel", VOID, (x, w) -> x.heel(w[0]), new int[1], 0, 0, 20);
    }
}
