/** Promises 31 to 33: row, store, get. */
public final class RowTest {
    public static void main(String[] args) {
        row();
        store();
        get();
        Due.end();
    }

    private static void row() {
        BoatTrim x = new BoatTrim();
        Due.is("31: row(0, 40)", x.row(0, 40), 1);
        Due.is("31: row(2, 0)", x.row(2, 0), 1);
        x.store(0, 39, 8);
        Due.is("31: row(0, 40) anew", x.row(0, 40), 1);
        for (int i = 0; i < 40; i++) Due.is("31: all 0", x.get(0, i), 0);
        Due.is("31: none behind", x.get(0, 40), BoatTrim.VOID);
        Due.is("31: a ROW of none", x.store(2, 0, 1), -13);
        int[][] bad = {{-1, 1}, {3, 1}, {0, 41}, {0, Integer.MAX_VALUE}, {-1, -2}, {3, -2}};
        for (int[] b : bad) Due.is("31: row(" + b[0] + ", " + b[1] + ")", x.row(b[0], b[1]), BoatTrim.BAD);
        Due.is("31: row(0, -2)", x.row(0, -2), -14);
        Due.is("31: row(0, least)", x.row(0, Integer.MIN_VALUE), -14);
        Due.is("31: nothing was changed", x.get(0, 39), 0);
        Due.is("31: row(0, -1)", x.row(0, -1), 1);
        Due.is("31: it is missing", x.get(0, 0), BoatTrim.VOID);
        Due.is("31: it is missing, so", x.store(0, 0, 1), -11);
    }

    private static void store() {
        BoatTrim x = new BoatTrim();
        Due.is("32: missing", x.store(1, -1, 5), -11);
        x.row(0, 2);
        x.row(1, 2);
        Due.is("32: store(1, 0, least)", x.store(1, 0, Integer.MIN_VALUE), 1);
        Due.is("32: store(1, 1, most)", x.store(1, 1, Integer.MAX_VALUE), 1);
        Due.is("32: place 0", x.get(1, 0), Integer.MIN_VALUE);
        Due.is("32: place 1", x.get(1, 1), Integer.MAX_VALUE);
        Due.is("32: the other ROW", x.get(0, 0), 0);
        Due.is("32: store(-1, ..)", x.store(-1, 0, 1), BoatTrim.BAD);
        Due.is("32: store(3, ..)", x.store(3, 0, 1), BoatTrim.BAD);
        Due.is("32: store(1, -1, ..)", x.store(1, -1, 1), -13);
        Due.is("32: store(1, 2, ..)", x.store(1, 2, 1), -13);
        Due.is("32: store(1, most, ..)", x.store(1, Integer.MAX_VALUE, 1), -13);
    }

    private static void get() {
        BoatTrim x = new BoatTrim();
        Due.is("33: missing", x.get(0, 0), BoatTrim.VOID);
        x.row(0, 3);
        x.store(0, 2, -7);
        Due.is("33: get(0, 2)", x.get(0, 2), -7);
        int[][] wrong = {{-1, 0}, {3, 0}, {0, -1}, {0, 3}, {0, Integer.MIN_VALUE}, {1, 0}};
        for (int[] w : wrong) Due.is("33: get(" + w[0] + ", " + w[1] + ")", x.get(w[0], w[1]), BoatTrim.VOID);
    }
}
