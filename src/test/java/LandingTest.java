/** Promises 26 and 34: fits, film. */
public final class LandingTest {
    public static void main(String[] args) {
        film();
        filmOfNothing();
        fits();
        fitsTheGreatest();
        fitsWhatSinks();
        fitsNoLine();
        fitsRefuses();
        Due.end();
    }

    private static void film() {
        BoatTrim x = new BoatTrim();
        Desk.put(x, "b", 0, 40, 0, 0, 0);
        Desk.put(x, "a", 0, 20, 0, 0, 0);
        Desk.put(x, "c", 4, 37, 0, 0, 0);
        Due.is("34: film(0)", x.film(0), 4);
        // 200, 160, 120, 100 by 1.6 each.
        Due.is("34: its LINES", Desk.row(x, 0), "320 256 192 160");
        x.set(2, 1);
        // The FELT WEIGHS 37 and 9 and 3 and goes first: 209, 160, 120, 100.
        Due.is("34: film(0), WET", x.film(0), 4);
        Due.is("34: its LINES, WET", Desk.row(x, 0), "335 256 192 160");
        x.set(0, 5);
        x.film(2);
        Due.is("34: NOT where it sinks", Desk.row(x, 2), "-2 256 192 160");
        Due.is("34: all stay aboard", x.count(1), 3);
        Due.is("34: film(-1)", x.film(-1), BoatTrim.BAD);
        Due.is("34: film(3)", x.film(3), BoatTrim.BAD);
    }

    private static void filmOfNothing() {
        BoatTrim x = new BoatTrim();
        x.row(1, 40);
        x.store(1, 39, 5);
        Due.is("34: nothing aboard", x.film(1), 1);
        Due.is("34: one LINE alone", Desk.row(x, 1), "160");
        for (int i = 1; i <= 16; i++) x.put(i, 0, 1, 0, 0, 0);
        Due.is("34: the most", x.film(1), 17);
        Due.is("34: the last", x.get(1, 16), 160);
        Due.is("34: none behind it", x.get(1, 17), BoatTrim.VOID);
    }

    private static void fits() {
        BoatTrim x = new BoatTrim();
        Desk.put(x, "a", 0, 20, 0, 0, 0);
        Desk.put(x, "b", 0, 30, 0, 0, 0);
        int a = Desk.name("a");
        int b = Desk.name("b");
        x.film(0);
        Due.is("26: its LINES", Desk.row(x, 0), "240 192 160");
        Due.is("26: all of it", x.fits(0, 3, a, 0), 1);
        Due.is("26: its least", x.fits(0, 3, a, 1), 20);
        // Behind one of them 120 are left: so it is 20, or b goes last and can't.
        Due.is("26: of b", x.fits(0, 3, b, 1), 30);
        x.store(0, 0, 192);
        x.store(0, 1, 160);
        x.store(0, 2, 160);
        Due.is("26: none", x.fits(0, 3, a, 0), 0);
        Due.is("26: none, the least", x.fits(0, 3, a, 1), BoatTrim.NOT);
        x.store(0, 0, 208);
        Due.is("26: none of 130", x.fits(0, 1, a, 0), 0);
        x.store(0, 0, 210);
        // 131: LINE 209.6, so 210; none else.
        Due.is("26: of 131", x.fits(0, 1, a, 0) * 1000 + x.fits(0, 1, a, 1), 1001);
        x.store(0, 0, 400);
        x.store(0, 1, 208);
        // 250: a WEIGHS 120 and goes first.
        Due.is("26: it goes first", x.fits(0, 2, a, 1), 120);
        x.store(0, 1, 192);
        Due.is("26: it doesn't fit behind", x.fits(0, 2, a, 1), BoatTrim.NOT);
        Due.is("26: by no place", x.fits(0, 0, a, 0), 999);
        Due.is("26: by no place, the least", x.fits(0, 0, a, 1), 1);
        Due.is("26: WEIGHT stays", x.goods(a, 1) * 1000 + x.goods(b, 1), 20030);
        fitsOfMany();
    }

    private static void fitsOfMany() {
        BoatTrim x = new BoatTrim();
        x.section(0, 40, 0);
        x.section(1, 30, 0);
        x.section(2, 30, 0);
        x.section(3, 28, 0);
        Desk.put(x, "a", 2, 8, 0, 0, 0);
        int a = Desk.name("a");
        x.set(2, 1);
        // WATER 128 a draught: a LINE for each two of ALL WEIGHT. 110 with WEIGHT 8, which WEIGHS 10.
        x.film(0);
        Due.is("26: LINE", x.get(0, 0), 55);
        // WEIGHS 9 or 10: WEIGHT 8 alone (7 WEIGHS 8).
        Due.is("26: of the WOOL", x.fits(0, 1, a, 0), 1);
        x.store(0, 0, 57);
        // WEIGHS 13 or 14: WEIGHT 11.
        Due.is("26: of the WOOL, more", x.fits(0, 1, a, 1), 11);
        x.set(2, 0);
        Due.is("26: dry", x.fits(0, 1, a, 0), 2);
        Due.is("26: dry, the least", x.fits(0, 1, a, 1), 13);
        x.store(0, 1, 50);
        Due.is("26: with its going", x.fits(0, 2, a, 0), 2);
        x.store(0, 1, 51);
        Due.is("26: not with its going", x.fits(0, 2, a, 0), 0);
    }

    private static void fitsTheGreatest() {
        BoatTrim x = new BoatTrim();
        for (int i = 0; i < 4; i++) x.section(i, 16, 0);
        for (int i = 1; i <= 15; i++) x.put(i, 0, i, 0, 0, 0);
        x.put(16, 0, 999, 0, 0, 0);
        // WATER 64 a draught: LINE is ALL WEIGHT, 1219 with all aboard.
        x.film(0);
        Due.is("26: LINES", Desk.row(x, 0), "1219 220 205 191 178 166 155 145 136 128 121 115 110 106 103 101 100");
        Due.is("26: by seventeen, the greatest", x.fits(0, 17, 16, 1), 999);
        Due.is("26: by seventeen, how many", x.fits(0, 17, 16, 0), 1);
        Due.is("26: by seventeen, of the least", x.fits(0, 17, 1, 1), 1);
        x.store(0, 16, 101);
        Due.is("26: by sixteen", x.fits(0, 16, 16, 0), 1);
        Due.is("26: not by seventeen", x.fits(0, 17, 16, 0), 0);
    }

    private static void fitsWhatSinks() {
        BoatTrim x = new BoatTrim();
        Desk.put(x, "a", 0, 900, 0, 0, 0);
        int a = Desk.name("a");
        x.film(0);
        Due.is("26: it sinks", Desk.row(x, 0), "-2 160");
        Due.is("26: by what it sinks", x.fits(0, 2, a, 0), 299);
        Due.is("26: by what it sinks, the least", x.fits(0, 2, a, 1), 701);
        x.store(0, 1, -2);
        Due.is("26: it doesn't sink without", x.fits(0, 2, a, 0), 0);
    }

    private static void fitsNoLine() {
        BoatTrim x = new BoatTrim();
        Desk.put(x, "a", 0, 1, 0, 0, 0);
        x.row(0, 1);
        int[] noLines = {0, -1, -3, -5, 1281, 1600, Integer.MAX_VALUE, Integer.MIN_VALUE, 161, 160};
        for (int line : noLines) {
            x.store(0, 0, line);
            Due.is("26: no LINE " + line, x.fits(0, 1, 1, 0), 0);
            Due.is("26: no LINE " + line + ", the least", x.fits(0, 1, 1, 1), BoatTrim.NOT);
        }
        x.store(0, 0, 1280);
        Due.is("26: the greatest LINE", x.fits(0, 1, 1, 0) * 1000 + x.fits(0, 1, 1, 1), 1700);
        x.store(0, 0, 162);
        Due.is("26: the least LINE", x.fits(0, 1, 1, 0) * 1000 + x.fits(0, 1, 1, 1), 1001);
    }

    private static void fitsRefuses() {
        BoatTrim x = new BoatTrim();
        Desk.put(x, "a", 0, 1, 0, 0, 0);
        int[][] bad = {{-1, 0, 1, 0}, {3, 0, 1, 0}, {0, -1, 1, 0}, {0, 18, 1, 0}, {0, 0, 0, 0}, {0, 0, 27, 0}, {0, 0, 1, -1}, {0, 0, 1, 2},
            {0, 0, 2, 2}};
        for (int i = 0; i < bad.length; i++) {
            Due.is("26: wrong fits " + i, x.fits(bad[i][0], bad[i][1], bad[i][2], bad[i][3]), BoatTrim.BAD);
        }
        Due.is("26: NOT ahead of -11", x.fits(0, 0, 2, 0), BoatTrim.NOT);
        Due.is("26: missing", x.fits(0, 0, 1, 0), -11);
        Due.is("26: -11 ahead of STATE", x.fits(0, 17, 1, 0), -11);
        x.row(0, 2);
        Due.is("26: -13 ahead of STATE", x.fits(0, 3, 1, 0), -13);
        x.row(0, 17);
        Due.is("26: STATE", x.fits(0, 3, 1, 0), BoatTrim.STATE);
        Due.is("26: as many as there are", x.fits(0, 2, 1, 0), 0);
        x.row(0, 0);
        Due.is("26: a ROW of none", x.fits(0, 0, 1, 0), 999);
    }
}
