/** "SO THAT NOTHING IS READ TWO WAYS", sentence by sentence; those of THE TAPE stand in TextTest, those of hull() in ChangedTest. */
public final class TwoWaysTest {
    private static final int NOT = BoatTrim.NOT, STATE = BoatTrim.STATE, VOID = BoatTrim.VOID;
    private static final int CASE = 0, CASK = 1, WOOL = 2, KEG = 3;

    public static void main(String[] args) {
        byIsCutTowardZero();
        hullButRowsTapeAndImage();
        hullOfAsManySections();
        aTankToldAnew();
        offGoesByItsOwnA();
        whereWaterCantBeEnough();
        twoInOneSection();
        rightingStays();
        asideWithoutAny();
        whereLineIsNot();
        Due.end();
    }

    /** "By is a division, cut toward 0": of what is below 0, too. */
    private static void byIsCutTowardZero() {
        BoatTrim x = new BoatTrim();
        x.put(1, CASE, 1, 0, -1, 0);
        x.put(2, CASK, 1, 0, 0, 0);
        x.put(3, KEG, 1, 0, 0, 0);
        // RIGHTING 332: -64 by 332 is 0 and not -1; -192 likewise; -384 is -1.
        int[][] due = {{-1, 0}, {-3, 0}, {-5, 0}, {-6, -1}, {-10, -1}, {-11, -2}, {5, 0}, {6, 1}};
        for (int[] d : due) {
            x.move(1, 0, d[0]);
            Due.is("17: HEEL by ASIDE " + d[0], x.heel(0), d[1]);
        }
        x.move(1, 0, -20);
        x.move(2, 0, -20);
        x.move(3, 0, -20);
        // -3840 by 332 is -11; -11 by 32 is 0.
        Due.is("17: HEEL", x.heel(0), -11);
        Due.is("8: by 32, above -1", x.goods(2, 6), 0);
        Due.is("8: twice that", x.goods(3, 6), 0);
        x.set(2, 1);
        x.put(4, WOOL, 3, 0, 0, 0);
        Due.is("8: a fourth of 3", x.goods(4, 5), 3);
    }

    /** "hull() makes all as at first (no GOODS, no TANKS; WET 0), but ROWS, THE TAPE, THE IMAGE." */
    private static void hullButRowsTapeAndImage() {
        BoatTrim x = Laden.desk();
        Due.is("2: hull(2)", x.hull(2), 4);
        int[] counts = {2, 0, 20, 100, 0, 22, 0};
        for (int what = 0; what < 7; what++) Due.is("2: count(" + what + ")", x.count(what), counts[what]);
        int[] told = {100, 100, 0, 0, 166, 0, 0, 0};
        for (int what = 0; what < 8; what++) Due.is("2: told(" + what + ")", x.told(what), told[what]);
        for (int i = 0; i < 2; i++) Due.is("2: WIDE and RISE of " + i, x.section(i, 10, 0), 1000);
        Due.is("2: no SECTION 2", x.section(2, 10, 0), BoatTrim.BAD);
        Due.is("2: no GOODS", x.next(0), NOT);
        for (int tank = 0; tank < 4; tank++) Due.is("2: no TANK " + tank, x.fill(tank, 0), STATE);
        Due.is("2: ROW 0 stays", x.get(0, 1), 41);
        Due.is("2: ROW 1 stays missing", x.store(1, 0, 1), -11);
        Due.is("2: ROW 2 stays, of none", x.store(2, 0, 1), -13);
        Due.is("2: THE TAPE stays", x.read(), 2);
        Due.is("2: what it told", Desk.report(x), "zzk5@0r3;");
        Due.is("2: THE IMAGE stays", x.undo(), 1);
        Due.is("2: SECTIONS of it", x.count(0), 3);
    }

    /** .. though n is what it was; refused, it makes nothing as at first. */
    private static void hullOfAsManySections() {
        BoatTrim x = Laden.desk();
        Due.is("2: hull(1)", x.hull(1), BoatTrim.BAD);
        Due.is("2: GOODS stay", x.count(1), 5);
        Due.is("2: hull(4)", x.hull(4), 4);
        Due.is("2: GOODS went", x.count(1), 0);
        Due.is("2: DEEP as at first", x.count(2), 20);
        Due.is("2: hull(4) again", x.hull(4), 4);
    }

    /** "A TANK told anew HAS 0." */
    private static void aTankToldAnew() {
        BoatTrim x = new BoatTrim();
        x.tank(2, 1, 6, 9);
        x.fill(2, 5);
        Due.is("10: as it is", x.tank(2, 1, 6, 9), 1);
        Due.is("11: it HAS 0", x.fill(2, 5), 0);
        Due.is("10: refused", x.tank(2, 1, 21, 9), BoatTrim.BAD);
        Due.is("11: so it HAS 5 still", x.fill(2, 5), 5);
        Due.is("10: of BREADTH 0", x.tank(2, 1, 0, 9), 1);
        Due.is("12: it weighs nothing", x.told(0), 100);
        Due.is("12: none is SLACK", x.told(6), 0);
        Due.is("10: there again", x.tank(2, 3, 1, 1), 1);
        Due.is("11: it HAS 0 again", x.fill(2, 1), 0);
        Due.is("12: in its new SECTION", x.told(1), 300 + 6);
        Due.is("11: it HOLDS 1 now", x.fill(2, 2), STATE);
    }

    /** "OFF of a slope goes by the a of that slope." */
    private static void offGoesByItsOwnA() {
        BoatTrim x = new BoatTrim();
        x.hull(2);
        x.section(0, 30, 0);
        // 6400: by b it is 30 (a less b) and 10 (a and b): a is (6400 and 20 b) by 40, no less.
        for (int b = -20; b <= 20; b++) {
            int a = (6400 + 20 * b + 39) / 40;
            Due.is("16: off(" + b + ")", x.off(b), 20 * (a + b) - 6400);
        }
    }

    /** "TRIM, CHANGE: where WATER of all can't be enough, it sinks." */
    private static void whereWaterCantBeEnough() {
        for (int shell = 770; shell <= 771; shell++) {
            BoatTrim x = new BoatTrim();
            x.set(1, shell);
            x.put(1, CASE, 20, 3, 0, 0);
            x.put(2, CASE, 10, 2, 0, 0);
            // ALONG is 770 times 3, 120 and 40; level would be 2400.
            boolean sinks = shell == 771;
            Due.is("15: b of " + shell, x.trim(0), sinks ? VOID : 0);
            Due.is("15: a of " + shell, x.trim(1), sinks ? VOID : 1280);
            Due.is("15: OFF of " + shell, x.trim(2), sinks ? VOID : 12800 * 12 - 64 * 2470);
            for (int b = -20; b <= 20; b += 10) Due.is("16: off(" + b + ") of " + shell, x.off(b), sinks ? VOID : 12800 * 12 - 64 * 2470);
            Due.is("25: the one of " + shell, x.change(0), sinks ? NOT : 1);
            Due.is("25: the other of " + shell, x.change(1), sinks ? NOT : 2);
        }
    }

    /** "CHANGE of two in one SECTION makes nothing less." */
    private static void twoInOneSection() {
        BoatTrim x = new BoatTrim();
        for (int i = 1; i <= 16; i++) x.put(i, CASE, 20 * i % 37 + 1, 3, 0, 0);
        Due.is("25: all in one, OFF", x.off(0) == 0 ? 1 : 0, 0);
        Due.is("25: all in one", x.change(0), NOT);
        Due.is("25: all in one, the other", x.change(1), NOT);
        x.move(16, 2, 0);
        Due.is("25: one in another", x.change(0) == NOT ? 1 : 0, 0);
        Due.is("25: one in another, with it", x.change(1), 16);
    }

    /** "ROLLING: RIGHTING stays as it is." */
    private static void rightingStays() {
        BoatTrim x = new BoatTrim();
        x.put(1, KEG, 40, 0, 5, 8);
        x.tank(0, 0, 6, 9);
        x.fill(0, 1);
        // 332 less 18, less (320 and 2) by 16: 294. 64 times 200: 43; 40 times (5 and 2): 60; then 60 again.
        Due.is("12: RIGHTING", x.told(4), 294);
        Due.is("17: HEEL", x.heel(0), 12800 / 294);
        Due.is("17: behind one", x.heel(1), 64 * 280 / 294);
        Due.is("17: behind two", x.heel(2), 64 * 280 / 294);
        Due.is("12: RIGHTING behind it", x.told(4), 294);
        Due.is("12: ASIDE behind it", x.told(2), 200);
    }

    /** "ORDER by 3: ASIDE without any is 0." */
    private static void asideWithoutAny() {
        BoatTrim x = new BoatTrim();
        x.put(1, CASE, 3, 0, 20, 0);
        x.put(2, CASE, 3, 0, -19, 0);
        x.put(3, CASE, 900, 0, 1, 0);
        // From 0 it is 60, -57, 900; ASIDE of all is 903.
        Due.is("22: the first", x.order(3, 0), 2);
        Due.is("22: the second", x.order(3, 1), 1);
        Due.is("22: the last", x.order(3, 2), 3);
        // As far to either side, and as heavy: by NAMES, for neither side has any ahead.
        for (int side = -5; side <= 5; side += 10) {
            BoatTrim y = new BoatTrim();
            y.put(1, CASE, 1, 0, side, 0);
            y.put(2, CASE, 1, 0, -side, 0);
            Due.is("22: of two as far, the first at " + side, y.order(3, 0), 1);
        }
        Due.is("22: of none", new BoatTrim().order(3, 0), NOT);
    }

    /** "Where LINE is NOT, GROUNDED is STATE, LIGHTEN goes by ALL WEIGHT as told all the same." */
    private static void whereLineIsNot() {
        BoatTrim x = new BoatTrim();
        x.set(1, 900);
        Due.is("14: LINE", x.line(), NOT);
        int[] ds = {0, 1, 64, 640, 1279, 1280, 1281, 9999};
        // WATER at d carries 40 d by 64, 800 at most.
        int[] less = {900, 900, 860, 500, 101, 100, 100, 100};
        for (int i = 0; i < ds.length; i++) {
            Due.is("19: grounded(" + ds[i] + ")", x.grounded(ds[i]), STATE);
            Due.is("20: lighten(" + ds[i] + ")", x.lighten(ds[i]), less[i]);
        }
        Due.is("21: more(1280)", x.more(1280), -100);
        for (int i = 0; i < 4; i++) x.section(i, 10, 30);
        Due.is("20: nothing carries", x.lighten(9999), 900);
        Due.is("21: nothing carries", x.more(1280), -900);
    }
}
