/** Promises 10 and 11: tank, fill; of 12 what TANKS do to it. */
public final class TankTest {
    public static void main(String[] args) {
        tank();
        tankRefuses();
        fill();
        toldOfTanks();
        Due.end();
    }

    private static void tank() {
        BoatTrim x = new BoatTrim();
        Due.is("10: the least", x.tank(0, 0, 0, 0), 1);
        Due.is("10: the most", x.tank(3, 3, 20, 999), 1);
        Due.is("10: TANKS there", x.count(6), 1);
        Due.is("10: it is filled", x.fill(3, 999), 0);
        Due.is("10: told anew", x.tank(3, 0, 1, 5), 1);
        Due.is("10: it HAS 0", x.told(0), 100);
        Due.is("10: it HOLDS 5", x.fill(3, 6), BoatTrim.STATE);
        Due.is("10: it HAD 0", x.fill(3, 5), 0);
        Due.is("10: none any more", x.tank(3, 0, 0, 5), 1);
        Due.is("10: its weight is gone", x.told(0), 100);
        Due.is("10: it is none", x.fill(3, 0), BoatTrim.STATE);
    }

    private static void tankRefuses() {
        BoatTrim x = new BoatTrim();
        x.tank(1, 1, 7, 50);
        x.fill(1, 9);
        int[][] wrong = {{-1, 0, 0, 0}, {4, 0, 0, 0}, {1, -1, 0, 0}, {1, 4, 0, 0}, {1, 0, -1, 0}, {1, 0, 21, 0},
            {1, 0, 0, -1}, {1, 0, 0, 1000}};
        for (int i = 0; i < wrong.length; i++) {
            int[] w = wrong[i];
            Due.is("10: wrong tank " + i, x.tank(w[0], w[1], w[2], w[3]), BoatTrim.BAD);
        }
        Due.is("10: nothing was changed", x.fill(1, 9), 9);
    }

    private static void fill() {
        BoatTrim x = new BoatTrim();
        x.tank(2, 1, 3, 40);
        Due.is("11: fill(2, 40)", x.fill(2, 40), 0);
        Due.is("11: fill(2, 0)", x.fill(2, 0), 40);
        Due.is("11: fill(2, 39)", x.fill(2, 39), 0);
        Due.is("11: more than it HOLDS", x.fill(2, 41), BoatTrim.STATE);
        Due.is("11: below 0", x.fill(2, -1), BoatTrim.BAD);
        Due.is("11: below 0, of none", x.fill(1, -1), BoatTrim.BAD);
        Due.is("11: there is none", x.fill(1, 0), BoatTrim.STATE);
        Due.is("11: fill(-1, 0)", x.fill(-1, 0), BoatTrim.BAD);
        Due.is("11: fill(4, 0)", x.fill(4, 0), BoatTrim.BAD);
        Due.is("11: fill(4, most)", x.fill(4, Integer.MAX_VALUE), BoatTrim.BAD);
        Due.is("11: it HAS 39", x.fill(2, 1), 39);
    }

    private static void toldOfTanks() {
        BoatTrim x = new BoatTrim();
        x.tank(0, 1, 12, 40);
        x.tank(1, 3, 6, 40);
        x.tank(2, 3, 0, 40);
        x.tank(3, 2, 11, 0);
        Due.is("12: none SLACK when empty", x.told(6), 0);
        x.fill(0, 40);
        Due.is("12: none SLACK when full", x.told(6), 0);
        Due.is("12: RIGHTING of full ones", x.told(4), 332 - 80 / 16);
        x.fill(0, 39);
        x.fill(1, 1);
        Due.is("12: two SLACK", x.told(6), 2);
        Due.is("12: ALL WEIGHT", x.told(0), 140);
        Due.is("12: ALONG", x.told(1), 300 + 39 * 2 + 6);
        Due.is("12: ASIDE", x.told(2), 0);
        Due.is("12: ALOFT", x.told(3), 80);
        Due.is("12: RIGHTING", x.told(4), 332 - 144 - 18 - 5);
    }
}
