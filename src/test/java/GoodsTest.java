/** Promises 5 to 9 and 23: put, take, move, goods, taken, next. */
public final class GoodsTest {
    private static final int[] NO_NAMES = {0, -1, 27, 54, 729, 730 - 1, 27 * 27 * 27, 27 * 5 * 27 + 1, 531441, 531442,
        Integer.MAX_VALUE, Integer.MIN_VALUE};

    public static void main(String[] args) {
        put();
        putRefuses();
        take();
        move();
        goods();
        rolls();
        taken();
        next();
        Due.end();
    }

    private static void put() {
        BoatTrim x = new BoatTrim();
        Due.is("5: the first NAME", x.put(1, 0, 1, 0, -20, 0), 1);
        Due.is("5: the last NAME", x.put(531440, 4, 999, 3, 20, 40), 2);
        Due.is("5: of two letters", x.put(28, 1, 5, 1, 0, 1), 3);
        int[][] due = {{1, 0, 1, 0, -20, 0}, {531440, 4, 999, 3, 20, 40}, {28, 1, 5, 1, 0, 1}};
        for (int[] d : due) {
            for (int what = 0; what < 5; what++) Due.is("5: goods(" + d[0] + ", " + what + ")", x.goods(d[0], what), d[what + 1]);
        }
    }

    private static void putRefuses() {
        BoatTrim x = new BoatTrim();
        for (int name : NO_NAMES) Due.is("5: put(" + name + ", ..)", x.put(name, 0, 1, 0, 0, 0), BoatTrim.BAD);
        int[][] wrong = {{-1, 1, 0, 0, 0}, {5, 1, 0, 0, 0}, {0, 0, 0, 0, 0}, {0, 1000, 0, 0, 0}, {0, 1, -1, 0, 0},
            {0, 1, 4, 0, 0}, {0, 1, 0, -21, 0}, {0, 1, 0, 21, 0}, {0, 1, 0, 0, -1}, {0, 1, 0, 0, 41}};
        for (int i = 0; i < wrong.length; i++) {
            int[] w = wrong[i];
            Due.is("5: wrong put " + i, x.put(1, w[0], w[1], w[2], w[3], w[4]), BoatTrim.BAD);
        }
        Due.is("5: none came", x.count(1), 0);
        for (int i = 1; i <= 16; i++) Due.is("5: put " + i, x.put(i, 0, 1, 0, 0, 0), i);
        Due.is("5: one more", x.put(17, 0, 1, 0, 0, 0), BoatTrim.FULL);
        Due.is("5: STATE ahead of FULL", x.put(16, 1, 2, 1, 1, 1), BoatTrim.STATE);
        Due.is("5: BAD ahead of STATE", x.put(16, 5, 2, 1, 1, 1), BoatTrim.BAD);
        Due.is("5: nothing was changed", x.goods(16, 0), 0);
        Due.is("5: sixteen", x.count(1), 16);
        Due.is("5: one goes", x.take(9), 1);
        Due.is("5: one comes", x.put(17, 0, 1, 0, 0, 0), 16);
    }

    private static void take() {
        BoatTrim x = new BoatTrim();
        x.put(1, 0, 7, 0, 1, 2);
        x.put(2, 4, 10, 1, 3, 4);
        x.put(3, 2, 11, 2, 5, 6);
        x.set(2, 1);
        Due.is("6: what a FELT WEIGHS", x.take(2), 10 + 2 + 3);
        Due.is("6: it is gone", x.take(2), BoatTrim.NOT);
        Due.is("6: two are left", x.count(1), 2);
        Due.is("6: one ahead stays", x.goods(1, 1), 7);
        int[] due = {2, 11, 2, 5, 6};
        for (int what = 0; what < 5; what++) Due.is("6: one behind stays, " + what, x.goods(3, what), due[what]);
        for (int name : NO_NAMES) Due.is("6: take(" + name + ")", x.take(name), BoatTrim.BAD);
        Due.is("6: the last", x.take(3), 13);
        Due.is("6: the first", x.take(1), 7);
        Due.is("6: nothing aboard", x.count(1), 0);
    }

    private static void move() {
        BoatTrim x = new BoatTrim();
        x.put(1, 0, 7, 2, 1, 2);
        Due.is("7: move(1, 3, -20)", x.move(1, 3, -20), 2);
        Due.is("7: its SECTION", x.goods(1, 2), 3);
        Due.is("7: its SIDE", x.goods(1, 3), -20);
        Due.is("7: move(1, 0, 20)", x.move(1, 0, 20), 3);
        int[][] wrong = {{1, -1, 0}, {1, 4, 0}, {1, 1, -21}, {1, 1, 21}, {2, 4, 0}, {27, 1, 1}};
        for (int[] w : wrong) Due.is("7: move(" + w[0] + ", " + w[1] + ", " + w[2] + ")", x.move(w[0], w[1], w[2]), BoatTrim.BAD);
        for (int name : NO_NAMES) Due.is("7: move(" + name + ", ..)", x.move(name, 0, 0), BoatTrim.BAD);
        Due.is("7: none of that NAME", x.move(2, 0, 0), BoatTrim.NOT);
        Due.is("7: nothing was changed", x.goods(1, 2) * 100 + x.goods(1, 3), 20);
    }

    private static void goods() {
        BoatTrim x = new BoatTrim();
        for (int kind = 0; kind < 5; kind++) x.put(kind + 1, kind, 103, 0, 0, 0);
        int[] dry = {103, 103, 103, 103, 106};
        for (int kind = 0; kind < 5; kind++) Due.is("8: dry, WEIGHS " + kind, x.goods(kind + 1, 5), dry[kind]);
        x.set(2, 1);
        int[] soaked = {103, 103, 128, 103, 131};
        for (int kind = 0; kind < 5; kind++) Due.is("8: WET, WEIGHS " + kind, x.goods(kind + 1, 5), soaked[kind]);
        for (int kind = 0; kind < 5; kind++) Due.is("8: WEIGHT " + kind, x.goods(kind + 1, 1), 103);
        for (int name : NO_NAMES) Due.is("8: goods(" + name + ", 0)", x.goods(name, 0), BoatTrim.VOID);
        Due.is("8: goods(1, -1)", x.goods(1, -1), BoatTrim.VOID);
        Due.is("8: goods(1, 7)", x.goods(1, 7), BoatTrim.VOID);
        Due.is("8: none of that NAME", x.goods(6, 0), BoatTrim.VOID);
    }

    private static void rolls() {
        BoatTrim x = new BoatTrim();
        for (int kind = 0; kind < 5; kind++) x.put(kind + 1, kind, 20, 0, 0, 0);
        x.put(6, 0, 20, 0, -20, 0);
        // RIGHTING 332: HEEL is 64 times -400 by 332 = -77; by 32 that is -2.
        Due.is("8: HEEL", x.heel(0), -77);
        int[] due = {0, -2, 0, -4, 0};
        for (int kind = 0; kind < 5; kind++) Due.is("8: ROLLS " + kind, x.goods(kind + 1, 6), due[kind]);
        x.set(1, 9999);
        Due.is("8: it sinks", x.line(), BoatTrim.NOT);
        for (int kind = 0; kind < 5; kind++) Due.is("8: ROLLS by no HEEL " + kind, x.goods(kind + 1, 6), 0);
        x.set(1, 100);
        x.put(7, 0, 140, 0, 0, 40);
        Due.is("8: it floats", x.line() >= 0 ? 1 : 0, 1);
        Due.is("8: RIGHTING is below 0", x.told(4), 332 - 5600 / 16);
        Due.is("8: ROLLS by no HEEL", x.goods(4, 6), 0);
    }

    private static void taken() {
        BoatTrim x = new BoatTrim();
        x.set(2, 1);
        for (int kind = 0; kind < 5; kind++) x.put(kind + 1, kind, 100 + kind, 0, 0, 0);
        String[] kindsAbove = {"0", "01", "02", "013", "024"};
        for (int kind = 0; kind < 5; kind++) {
            for (int k = 0; k < 5; k++) {
                int due = kindsAbove[kind].indexOf('0' + k) >= 0 ? 100 + kind : BoatTrim.STATE;
                Due.is("9: KIND " + kind + " taken for " + k, x.taken(kind + 1, k), due);
            }
        }
        for (int name : NO_NAMES) Due.is("9: taken(" + name + ", 0)", x.taken(name, 0), BoatTrim.BAD);
        Due.is("9: taken(1, -1)", x.taken(1, -1), BoatTrim.BAD);
        Due.is("9: taken(1, 5)", x.taken(1, 5), BoatTrim.BAD);
        Due.is("9: BAD ahead of NOT", x.taken(6, 5), BoatTrim.BAD);
        Due.is("9: none of that NAME", x.taken(6, 0), BoatTrim.NOT);
    }

    private static void next() {
        BoatTrim x = new BoatTrim();
        Due.is("23: nothing aboard", x.next(0), BoatTrim.NOT);
        String[] names = {"zz", "b", "aaa", "a", "ab", "aaaa", "zzzz"};
        for (String name : names) Desk.put(x, name, 0, 1, 0, 0, 0);
        String[] inOrder = {"a", "b", "ab", "zz", "aaa", "aaaa", "zzzz"};
        int at = 0;
        for (String name : inOrder) {
            Due.is("23: next(" + at + ")", x.next(at), Desk.name(name));
            at = Desk.name(name);
        }
        Due.is("23: behind the last", x.next(at), BoatTrim.NOT);
        Due.is("23: behind one that isn't there", x.next(Desk.name("c")), Desk.name("ab"));
        for (int name : NO_NAMES) {
            if (name != 0) Due.is("23: next(" + name + ")", x.next(name), BoatTrim.BAD);
        }
    }
}
