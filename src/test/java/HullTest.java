/** Promises 1 to 4 and 37: a new object, hull, section, set, count. */
public final class HullTest {
    public static void main(String[] args) {
        aNewObject();
        hull();
        hullMakesAllAsAtFirst();
        section();
        set();
        count();
        Due.end();
    }

    private static void aNewObject() {
        BoatTrim x = new BoatTrim();
        int[] first = {4, 0, 20, 100, 0, 0, 0};
        for (int what = 0; what < first.length; what++) Due.is("1: count(" + what + ")", x.count(what), first[what]);
        for (int i = 0; i < 4; i++) Due.is("1: section(" + i + ")", x.section(i, 10, 0), 1000);
        Due.is("1: undo()", x.undo(), BoatTrim.STATE);
        for (int row = 0; row < 3; row++) Due.is("1: row " + row, x.store(row, 0, 1), -11);
        for (int tank = 0; tank < 4; tank++) Due.is("1: tank " + tank, x.fill(tank, 0), BoatTrim.STATE);
        Due.is("1: told(0)", x.told(0), 100);
        Due.is("1: told(1)", x.told(1), 300);
        Due.is("1: told(2)", x.told(2), 0);
        Due.is("1: told(3)", x.told(3), 0);
        Due.is("1: told(4)", x.told(4), 4 * 83);
    }

    private static void hull() {
        BoatTrim x = new BoatTrim();
        Due.is("2: hull(2)", x.hull(2), 4);
        Due.is("2: hull(10)", x.hull(10), 2);
        int[] wrong = {1, 0, -1, 11, Integer.MAX_VALUE, Integer.MIN_VALUE};
        for (int n : wrong) Due.is("2: hull(" + n + ")", x.hull(n), BoatTrim.BAD);
        Due.is("2: ten SECTIONS", x.count(0), 10);
        Due.is("2: the last one", x.section(9, 10, 0), 1000);
        Due.is("2: none behind it", x.section(10, 10, 0), BoatTrim.BAD);
        Due.is("2: ALONG of SHELL", x.told(1), 900);
    }

    private static void hullMakesAllAsAtFirst() {
        BoatTrim x = new BoatTrim();
        x.section(0, 40, 30);
        x.set(0, 60);
        x.set(1, 9999);
        x.set(2, 1);
        Desk.put(x, "a", 0, 1, 0, 0, 0);
        x.tank(1, 0, 5, 10);
        x.fill(1, 5);
        x.row(2, 1);
        x.store(2, 0, 7);
        x.feed('a');
        Due.is("2: image()", x.image(), 1);
        Due.is("2: hull(4)", x.hull(4), 4);
        int[] first = {4, 0, 20, 100, 0, 1, 0};
        for (int what = 0; what < first.length; what++) Due.is("2: count(" + what + ")", x.count(what), first[what]);
        Due.is("2: ALL WEIGHT", x.told(0), 100);
        Due.is("2: WIDE and RISE", x.section(0, 10, 0), 1000);
        Due.is("2: no TANK", x.fill(1, 0), BoatTrim.STATE);
        Due.is("2: the ROW stays", x.get(2, 0), 7);
        Due.is("2: THE IMAGE stays", x.undo(), 1);
        Due.is("2: a refused hull", x.hull(11), BoatTrim.BAD);
        Due.is("2: changes nothing", x.count(1), 1);
    }

    private static void section() {
        BoatTrim x = new BoatTrim();
        Due.is("3: section(3, 1, 30)", x.section(3, 1, 30), 1000);
        Due.is("3: section(3, 40, 0)", x.section(3, 40, 0), 130);
        int[][] wrong = {{-1, 10, 0}, {4, 10, 0}, {3, 0, 0}, {3, 41, 0}, {3, 10, -1}, {3, 10, 31},
            {Integer.MIN_VALUE, 10, 0}, {Integer.MAX_VALUE, 10, 0}};
        for (int[] w : wrong) Due.is("3: section(" + w[0] + ", " + w[1] + ", " + w[2] + ")", x.section(w[0], w[1], w[2]), BoatTrim.BAD);
        Due.is("3: nothing was changed", x.section(3, 10, 0), 4000);
        Due.is("3: nor the others", x.section(0, 10, 0), 1000);
    }

    private static void set() {
        BoatTrim x = new BoatTrim();
        int[][] due = {{0, 1, 20}, {0, 60, 1}, {1, 1, 100}, {1, 9999, 1}, {2, 1, 0}, {2, 0, 1}};
        for (int[] d : due) Due.is("4: set(" + d[0] + ", " + d[1] + ")", x.set(d[0], d[1]), d[2]);
        int[][] wrong = {{0, 0}, {0, 61}, {1, 0}, {1, 10000}, {2, -1}, {2, 2}, {-1, 1}, {3, 1}};
        for (int[] w : wrong) Due.is("4: set(" + w[0] + ", " + w[1] + ")", x.set(w[0], w[1]), BoatTrim.BAD);
        Due.is("4: DEEP", x.count(2), 60);
        Due.is("4: SHELL", x.count(3), 9999);
        Due.is("4: WET", x.count(4), 0);
    }

    private static void count() {
        BoatTrim x = new BoatTrim();
        x.hull(7);
        x.set(0, 33);
        x.set(1, 444);
        x.set(2, 1);
        Desk.put(x, "a", 0, 1, 0, 0, 0);
        Desk.put(x, "b", 0, 1, 0, 0, 0);
        x.feed(' ');
        x.feed(' ');
        x.feed(' ');
        x.tank(0, 0, 1, 0);
        x.tank(1, 0, 0, 9);
        x.tank(3, 0, 20, 9);
        int[] due = {7, 2, 33, 444, 1, 3, 2};
        for (int what = 0; what < due.length; what++) Due.is("37: count(" + what + ")", x.count(what), due[what]);
        Due.is("37: count(-1)", x.count(-1), BoatTrim.BAD);
        Due.is("37: count(7)", x.count(7), BoatTrim.BAD);
    }
}
