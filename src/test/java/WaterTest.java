/** Promises 12 to 16 and 19 to 21: told, water, line, trim, off, grounded, lighten, more. */
public final class WaterTest {
    public static void main(String[] args) {
        told();
        water();
        line();
        off();
        trim();
        trimOfSteepWater();
        trimOfLikeOnes();
        itSinks();
        grounded();
        lighten();
        more();
        Due.end();
    }

    private static void told() {
        BoatTrim x = new BoatTrim();
        x.put(1, 0, 10, 3, -4, 5);
        x.put(2, 4, 20, 1, 20, 9);
        x.set(2, 1);
        // The FELT WEIGHS 20 and 5 and 3.
        Due.is("12: ALL WEIGHT", x.told(0), 138);
        Due.is("12: ALONG", x.told(1), 300 + 60 + 56);
        Due.is("12: ASIDE", x.told(2), -40 + 560);
        Due.is("12: ALOFT", x.told(3), 50 + 252);
        Due.is("12: RIGHTING", x.told(4), 332 - 18);
        Due.is("12: GOODS", x.told(5), 2);
        Due.is("12: the least RISE", x.told(7), 0);
        for (int i = 0; i < 4; i++) x.section(i, 10, 9 - i);
        Due.is("12: the least RISE of the last", x.told(7), 6);
        x.section(1, 10, 2);
        Due.is("12: the least RISE of another", x.told(7), 2);
        Due.is("12: told(-1)", x.told(-1), BoatTrim.VOID);
        Due.is("12: told(8)", x.told(8), BoatTrim.VOID);
        x.set(1, 9999);
        Due.is("12: RIGHTING where it sinks", x.told(4), BoatTrim.VOID);
        rightingOfDrySections();
        whatWentIsNotTold();
    }

    private static void whatWentIsNotTold() {
        BoatTrim x = new BoatTrim();
        x.put(1, 0, 10, 3, -4, 5);
        x.put(2, 0, 10, 3, -4, 5);
        x.take(2);
        x.take(1);
        int[] due = {100, 300, 0, 0, 332, 0, 0, 0};
        for (int what = 0; what < 8; what++) Due.is("12: told(" + what + ") of none", x.told(what), due[what]);
    }

    private static void rightingOfDrySections() {
        BoatTrim x = new BoatTrim();
        x.hull(2);
        x.section(1, 20, 10);
        // SECTION 0 alone is in the water: 6400 by 10 = 640, which is RISE 10 of the other.
        Due.is("12: LINE", x.line(), 640);
        Due.is("12: RIGHTING of one", x.told(4), 83);
        x.put(1, 0, 1, 0, 0, 0);
        Due.is("12: RIGHTING of both", x.told(4), 83 + 666);
    }

    private static void water() {
        BoatTrim x = new BoatTrim();
        x.section(1, 7, 3);
        x.set(0, 5);
        int[][] due = {{0, 0, 0}, {0, -1, 0}, {0, -9999, 0}, {0, 1, 10}, {0, 320, 3200}, {0, 321, 3200}, {0, 9999, 3200},
            {1, 192, 0}, {1, 193, 7}, {1, 320, 896}, {1, 9999, 896}, {-1, 200, 6056}, {-1, 9999, 10496}, {-1, -5, 0}};
        for (int[] d : due) Due.is("13: water(" + d[0] + ", " + d[1] + ")", x.water(d[0], d[1]), d[2]);
        int[][] wrong = {{-2, 0}, {4, 0}, {0, -10000}, {0, 10000}, {-1, 10000}, {-1, Integer.MIN_VALUE}};
        for (int[] w : wrong) Due.is("13: water(" + w[0] + ", " + w[1] + ")", x.water(w[0], w[1]), BoatTrim.VOID);
        x.section(2, 40, 30);
        Due.is("13: RISE above DEEP", x.water(2, 9999), 0);
    }

    private static void line() {
        BoatTrim x = new BoatTrim();
        Due.is("14: LINE", x.line(), 160);
        x.set(1, 101);
        Due.is("14: the least that is enough", x.line(), 162);
        x.set(1, 800);
        Due.is("14: at DEEP", x.line(), 1280);
        x.set(1, 801);
        Due.is("14: it sinks", x.line(), BoatTrim.NOT);
        x.set(0, 21);
        Due.is("14: it is DEEPER", x.line(), 1282);
        x.set(0, 1);
        x.set(1, 40);
        Due.is("14: DEEP 1", x.line(), 64);
        x.section(0, 10, 1);
        Due.is("14: one that never wets", x.line(), BoatTrim.NOT);
    }

    private static void off() {
        BoatTrim x = new BoatTrim();
        x.hull(2);
        x.put(1, 0, 5, 1, 0, 0);
        // a is 336 while both are in the water: SECTIONS lie at 336 less b and 336 and b.
        for (int b = -20; b <= 20; b++) Due.is("16: off(" + b + ")", x.off(b), 20 * (336 + b) - 64 * 110);
        Due.is("16: off(-21)", x.off(-21), BoatTrim.VOID);
        Due.is("16: off(21)", x.off(21), BoatTrim.VOID);
        BoatTrim y = new BoatTrim();
        y.hull(3);
        y.set(1, 3);
        // 192 of WATER: at slope 20 the last alone (40 above a), a is 0 and that is enough: 400.
        Due.is("16: a is 0 at least", y.off(20), 400 * 4 - 64 * 6);
        Due.is("16: a is 0 at least, by the head", y.off(-20), -64 * 6);
        y.set(1, 600);
        // WATER of all at DEEP alone is enough: a is 1280 and twice b.
        Due.is("16: a goes above DEEP", y.off(7), 12800 * 6 - 64 * 1200);
        y.set(1, 599);
        // 64 too many: the first, which lies 14 below a, has 6.4 less (6 of it, and a is 1274 and 14).
        Due.is("16: a nearly so", y.off(7), 12800 * 6 - 64 * 1198);
        // By the head: the last has 60 less, and counts 4 times.
        Due.is("16: a nearly so, by the head", y.off(-7), 12800 * 6 - 60 * 4 - 64 * 1198);
        y.set(1, 601);
        Due.is("16: this slope is none", y.off(7), BoatTrim.VOID);
    }

    private static void trim() {
        BoatTrim x = new BoatTrim();
        Due.is("15: level, b", x.trim(0), 0);
        Due.is("15: level, a", x.trim(1), 160);
        Due.is("15: level, OFF", x.trim(2), 0);
        x.hull(2);
        x.put(1, 0, 5, 1, 0, 0);
        Due.is("15: by the stern, b", x.trim(0), 16);
        Due.is("15: by the stern, a", x.trim(1), 336);
        Due.is("15: by the stern, OFF", x.trim(2), 0);
        x.move(1, 0, 0);
        Due.is("15: by the head, b", x.trim(0), -16);
        Due.is("15: by the head, a", x.trim(1), 336);
        Due.is("15: by the head, OFF", x.trim(2), 0);
        x.take(1);
        x.put(1, 0, 10, 1, 0, 0);
        Due.is("15: the steepest, b", x.trim(0), 20);
        Due.is("15: the steepest, a", x.trim(1), 352);
        Due.is("15: the steepest, OFF", x.trim(2), -240);
        x.move(1, 0, 0);
        Due.is("15: the steepest by the head, b", x.trim(0), -20);
        Due.is("15: the steepest by the head, OFF", x.trim(2), 240);
        Due.is("15: trim(-1)", x.trim(-1), BoatTrim.VOID);
        Due.is("15: trim(3)", x.trim(3), BoatTrim.VOID);
    }

    private static void trimOfSteepWater() {
        BoatTrim x = new BoatTrim();
        x.hull(3);
        x.set(1, 600);
        // Full to DEEP by each slope b: its a is 1280 and twice b without its sign.
        for (int b = -20; b <= 20; b++) Due.is("16: full by " + b, x.off(b), 0);
        x.set(1, 560);
        x.put(1, 0, 40, 2, 0, 0);
        Due.is("15: full, b", x.trim(0), 0);
        Due.is("15: full, a", x.trim(1), 1280);
        Due.is("15: full, OFF", x.trim(2), 12800 * 6 - 64 * 1280);
    }

    private static void trimOfLikeOnes() {
        BoatTrim x = new BoatTrim();
        x.hull(2);
        x.set(1, 400);
        // Full to DEEP by each slope: OFF is as great by each, so the least slope is taken.
        Due.is("15: of like ones the least slope", x.trim(0), 0);
        Due.is("15: its a", x.trim(1), 1280);
        Due.is("15: its OFF", x.trim(2), 0);
        likeOnesBesideZero();
        theOneBelowZero();
    }

    /** The middle one never wets: the outer ones alone float, and b tells how deep they lie. */
    private static void likeOnesBesideZero() {
        BoatTrim x = new BoatTrim();
        x.hull(3);
        x.section(0, 1, 0);
        x.section(1, 1, 30);
        x.section(2, 1, 0);
        x.set(1, 1);
        // SECTIONS 0 and 2 at a less and more twice b: a is 32. OFF: 4 times (32 and 2 b) less 128 = 8 b.
        Due.is("15: off(-1)", x.off(-1), -8);
        Due.is("15: off(1)", x.off(1), 8);
        Due.is("15: off(0)", x.off(0), 0);
        x.section(2, 5, 0);
        int best = x.trim(0);
        for (int b = -20; b <= 20; b++) {
            int less = Math.abs(x.off(b)) - Math.abs(x.trim(2));
            boolean isBehind = Math.abs(b) > Math.abs(best) || b == -best && b >= best;
            Due.is("15: " + best + " goes ahead of " + b, less > 0 || b == best || less == 0 && isBehind ? 1 : 0, 1);
        }
    }

    private static void theOneBelowZero() {
        BoatTrim x = new BoatTrim();
        x.hull(3);
        x.section(0, 16, 0);
        x.section(1, 34, 0);
        x.section(2, 10, 0);
        x.set(1, 1);
        // By -1 a is 1: 48, 34 and 0; by 1 a is 1: 0, 34 and 30; by 0 a is 2: 32, 68 and 20.
        Due.is("15: OFF of -1", x.off(-1), 68 - 128);
        Due.is("15: OFF of 1", x.off(1), 68 + 120 - 128);
        Due.is("15: OFF of 0", x.off(0), 136 + 80 - 128);
        Due.is("15: the one below 0", x.trim(0), -1);
        Due.is("15: its own a", x.trim(1), 1);
        Due.is("15: its own OFF", x.trim(2), -60);
    }

    private static void itSinks() {
        BoatTrim x = new BoatTrim();
        x.set(1, 801);
        for (int what = 0; what < 3; what++) Due.is("15: it sinks, " + what, x.trim(what), BoatTrim.VOID);
        for (int b = -20; b <= 20; b++) Due.is("16: it sinks, " + b, x.off(b), BoatTrim.VOID);
        Due.is("19: it sinks", x.grounded(0), BoatTrim.STATE);
        Due.is("19: it sinks at the most", x.grounded(9999), BoatTrim.STATE);
        Due.is("20: it sinks", x.lighten(9999), 1);
        Due.is("20: it sinks, 1216", x.lighten(1216), 801 - 760);
        Due.is("21: it sinks", x.more(1280), -1);
    }

    private static void grounded() {
        BoatTrim x = new BoatTrim();
        Due.is("19: grounded(159)", x.grounded(159), 1);
        Due.is("19: grounded(160)", x.grounded(160), 0);
        Due.is("19: grounded(0)", x.grounded(0), 1);
        Due.is("19: grounded(9999)", x.grounded(9999), 0);
        Due.is("19: grounded(-1)", x.grounded(-1), BoatTrim.BAD);
        Due.is("19: grounded(10000)", x.grounded(10000), BoatTrim.BAD);
        for (int i = 0; i < 4; i++) x.section(i, 10, i + 2);
        // All four are in the water: 4 times LINE less 128, 192, 256 and 320 is 640.
        Due.is("19: LINE", x.line(), 384);
        Due.is("19: less the least RISE", x.grounded(255), 1);
        Due.is("19: as deep as that", x.grounded(256), 0);
        x.set(1, 9999);
        Due.is("19: BAD ahead of STATE", x.grounded(-1), BoatTrim.BAD);
    }

    private static void lighten() {
        BoatTrim x = new BoatTrim();
        Due.is("20: it is not", x.lighten(160), 0);
        Due.is("20: far from it", x.lighten(9999), 0);
        Due.is("20: by one", x.lighten(159), 1);
        Due.is("20: by half", x.lighten(80), 50);
        // At 81 a WATER of 3240 carries 50 and 40 of 64.
        Due.is("20: by half and a little", x.lighten(81), 50);
        Due.is("20: all of it", x.lighten(0), 100);
        Due.is("20: lighten(-1)", x.lighten(-1), BoatTrim.BAD);
        Due.is("20: lighten(10000)", x.lighten(10000), BoatTrim.BAD);
        for (int i = 0; i < 4; i++) x.section(i, 10, i + 2);
        Due.is("20: above the least RISE", x.lighten(64), 100 - 10);
        Due.is("20: ALL WEIGHT stays", x.told(0), 100);
    }

    private static void more() {
        BoatTrim x = new BoatTrim();
        Due.is("21: more(160)", x.more(160), 0);
        Due.is("21: more(161)", x.more(161), 0);
        Due.is("21: more(162)", x.more(162), 1);
        Due.is("21: more(159)", x.more(159), -1);
        Due.is("21: more(1280)", x.more(1280), 700);
        Due.is("21: more(0)", x.more(0), -100);
        Due.is("21: more(-1)", x.more(-1), BoatTrim.VOID);
        Due.is("21: more(1281)", x.more(1281), BoatTrim.VOID);
        x.set(0, 21);
        Due.is("21: more(1281), DEEPER", x.more(1281), 700);
        x.tank(0, 0, 1, 9);
        x.fill(0, 9);
        x.put(1, 4, 10, 0, 0, 0);
        Due.is("21: of all aboard", x.more(1280), 800 - 100 - 9 - 13);
    }
}
