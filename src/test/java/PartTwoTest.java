/** Part 2 of the terms, sentence by sentence: WATER, LINE, TRIM, RIGHTING, HEEL, ROLLING, GROUNDED, LIGHTEN, MORE. */
public final class PartTwoTest {
    private static final int BAD = BoatTrim.BAD, NOT = BoatTrim.NOT, STATE = BoatTrim.STATE, VOID = BoatTrim.VOID;
    private static final int CASE = 0, CASK = 1, KEG = 3;

    public static void main(String[] args) {
        waterHeldWithin();
        waterAboveRise();
        waterOfAll();
        lineOfEachWeight();
        theLeastAndTheGreatestLine();
        eachSlope();
        theLeastA();
        theGreatestA();
        ofLikeSlopes();
        itSinksByEach();
        rightingByTwelve();
        rightingOfWhatHasWater();
        rightingLess();
        heelCut();
        heelNot();
        rollingHeld();
        roundsOfRolling();
        grounded();
        groundedByRise();
        lightenAsMuchAsItTells();
        moreAsMuchAsItTells();
        Due.end();
    }

    /** n SECTIONS of like WIDE, a DEEP and a SHELL. */
    private static BoatTrim boat(int n, int wide, int deep, int shell) {
        BoatTrim x = new BoatTrim();
        x.hull(n);
        for (int i = 0; i < n; i++) x.section(i, wide, 0);
        x.set(0, deep);
        x.set(1, shell);
        return x;
    }

    /** "WIDE times what p, held within 0 and 64 times DEEP, ..": below 0, 0, 1, at DEEP, above it, the least and the most p. */
    private static void waterHeldWithin() {
        int[] deeps = {1, 2, 59, 60};
        for (int deep : deeps) {
            BoatTrim x = boat(2, 7, deep, 1);
            int top = 64 * deep;
            int[][] due = {{-9999, 0}, {-1, 0}, {0, 0}, {1, 7}, {top - 1, 7 * (top - 1)}, {top, 7 * top}, {top + 1, 7 * top}, {9999, 7 * top}};
            for (int[] d : due) Due.is("13: DEEP " + deep + ", water(1, " + d[0] + ")", x.water(1, d[0]), d[1]);
            Due.is("13: p below its least", x.water(1, -10000), VOID);
            Due.is("13: p above its most", x.water(1, 10000), VOID);
        }
    }

    /** ".. is more than 64 times RISE (0, if it is not)" */
    private static void waterAboveRise() {
        BoatTrim x = boat(2, 3, 30, 1);
        for (int rise = 0; rise <= 30; rise++) {
            x.section(1, 3, rise);
            Due.is("13: below RISE " + rise, x.water(1, 64 * rise - 1), 0);
            Due.is("13: at RISE " + rise, x.water(1, 64 * rise), 0);
            Due.is("13: above RISE " + rise, x.water(1, 64 * rise + 1), rise < 30 ? 3 : 0);
            Due.is("13: at DEEP, RISE " + rise, x.water(1, 9999), 3 * 64 * (30 - rise));
        }
        x.set(0, 29);
        Due.is("13: RISE above DEEP", x.water(1, 9999), 0);
        x.set(0, 31);
        Due.is("13: RISE one below DEEP", x.water(1, 64 * 30 + 1), 3);
        Due.is("13: RISE one below DEEP, at it", x.water(1, 9999), 3 * 64);
    }

    /** "of all together" */
    private static void waterOfAll() {
        BoatTrim x = boat(10, 40, 60, 1);
        Due.is("13: the most there can be", x.water(-1, 9999), 10 * 40 * 64 * 60);
        Due.is("13: none", x.water(-1, 0), 0);
        Due.is("13: none below 0", x.water(-1, -9999), 0);
        for (int i = 0; i < 10; i++) x.section(i, i + 1, i);
        int all = 0;
        for (int i = 0; i < 10; i++) all += x.water(i, 500);
        Due.is("13: one by one", all, 1 * 500 + 2 * 436 + 3 * 372 + 4 * 308 + 5 * 244 + 6 * 180 + 7 * 116 + 8 * 52);
        Due.is("13: together", x.water(-1, 500), all);
    }

    /** "LINE: the least p .. by which WATER of all is 64 times ALL WEIGHT or more; NOT: it sinks": each ALL WEIGHT there is. */
    private static void lineOfEachWeight() {
        for (int wide = 1; wide <= 40; wide += 3) {
            BoatTrim x = boat(3, wide, 2, 1);
            for (int weight = 1; weight <= 6 * wide; weight++) {
                x.set(1, weight);
                int line = x.line();
                int due = (64 * weight + 3 * wide - 1) / (3 * wide);
                Due.is("14: WIDE " + wide + ", ALL WEIGHT " + weight, line, due);
            }
            Due.is("14: as full as can be", x.line(), 128);
            x.set(1, 6 * wide + 1);
            Due.is("14: one too many", x.line(), NOT);
        }
    }

    private static void theLeastAndTheGreatestLine() {
        Due.is("14: the least there can be", boat(10, 40, 60, 1).line(), 1);
        Due.is("14: six by 400", boat(10, 40, 60, 6).line(), 1);
        Due.is("14: seven by 400", boat(10, 40, 60, 7).line(), 2);
        BoatTrim x = boat(10, 40, 60, 9999);
        for (int i = 1; i <= 14; i++) x.put(i, CASE, 999, i % 10, 0, 0);
        x.put(15, CASE, 15, 0, 0, 0);
        Due.is("12: ALL WEIGHT", x.told(0), 24000);
        Due.is("14: the greatest there can be", x.line(), 3840);
        x.put(16, CASE, 1, 0, 0, 0);
        Due.is("14: one more", x.line(), NOT);
        BoatTrim y = boat(2, 10, 31, 20);
        y.section(0, 10, 30);
        y.section(1, 10, 30);
        Due.is("14: by the last part above RISE", y.line(), 64 * 31);
        y.set(1, 21);
        Due.is("14: more than that", y.line(), NOT);
        y.set(0, 30);
        y.set(1, 1);
        Due.is("14: none of it is wet", y.line(), NOT);
    }

    /** "for a slope b (-20 .. 20) SECTION i lies at a DRAUGHT of a and b times (2 i less n and 1)" */
    private static void eachSlope() {
        BoatTrim three = boat(3, 10, 20, 300);
        BoatTrim ten = boat(10, 10, 20, 1000);
        // a is 640 by each b; OFF is 2 WIDE b times each i times (2 i less n and 1).
        for (int b = -20; b <= 20; b++) {
            Due.is("16: of three, off(" + b + ")", three.off(b), 80 * b);
            Due.is("16: of ten, off(" + b + ")", ten.off(b), 3300 * b);
        }
        int[] wrong = {-21, 21, Integer.MIN_VALUE, Integer.MAX_VALUE};
        for (int b : wrong) Due.is("16: off(" + b + ")", ten.off(b), VOID);
        Due.is("15: level, b", ten.trim(0), 0);
        Due.is("15: level, a", ten.trim(1), 640);
        // 999 and 1 of 20 times 2 in the last: 3300 b less 64 times (1 times 18 less 9): 576; 0 is nearest.
        ten.set(1, 999);
        ten.put(1, CASE, 1, 9, 0, 0);
        Due.is("15: a little by the stern, OFF", ten.trim(2), -576);
        ten.take(1);
        ten.set(1, 900);
        ten.put(1, CASE, 100, 9, 0, 0);
        // 57600 by 3300 is 17 and some: 17 leaves -1500, 18 leaves 1800.
        Due.is("15: by the stern, b", ten.trim(0), 17);
        Due.is("15: by the stern, OFF", ten.trim(2), -1500);
        ten.move(1, 0, 0);
        Due.is("15: by the head, b", ten.trim(0), -17);
        Due.is("15: by the head, OFF", ten.trim(2), 1500);
        ten.take(1);
        ten.set(1, 700);
        ten.put(1, CASE, 300, 9, 0, 0);
        Due.is("15: no slope is enough, b", ten.trim(0), 20);
        Due.is("15: no slope is enough, OFF", ten.trim(2), 66000 - 64 * 300 * 9);
    }

    /** "a is the least (0 .. )" */
    private static void theLeastA() {
        BoatTrim x = boat(10, 40, 20, 1);
        // By 20 the last five lie at 20, 60, 100, 140, 180 and carry all of it.
        Due.is("16: a 0, by the stern", x.off(20), 40 * (180 * 18 + 140 * 16 + 100 * 14 + 60 * 12 + 20 * 10) - 64 * 9);
        Due.is("16: a 0, by the head", x.off(-20), 40 * (140 * 2 + 100 * 4 + 60 * 6 + 20 * 8) - 64 * 9);
        BoatTrim y = boat(2, 16, 20, 5);
        // 320 of WATER, the last at 20 by 20: just enough with a 0.
        Due.is("16: a 0 is just enough", y.off(20), 640 - 64 * 5);
        y.set(1, 6);
        // 384: the last at 24 by a 4.
        Due.is("16: a 0 is not enough", y.off(20), 768 - 64 * 6);
        y.set(1, 1);
        y.put(1, CASE, 4, 1, 0, 0);
        // By 0 .. 10 a is 10; by more the last alone is wet, at a and b, and that is 20.
        for (int b = 0; b <= 20; b++) Due.is("16: off(" + b + ")", y.off(b), 32 * Math.min(10 + b, 20) - 576);
        Due.is("15: nearly all in the last, b", y.trim(0), 8);
        Due.is("15: nearly all in the last, a", y.trim(1), 10);
        Due.is("15: nearly all in the last, OFF", y.trim(2), 0);
    }

    /** ".. 64 times DEEP, and as much more as (n less 1) times b without its sign" */
    private static void theGreatestA() {
        BoatTrim full = boat(10, 10, 1, 100);
        for (int b = -20; b <= 20; b++) Due.is("16: as full as can be, off(" + b + ")", full.off(b), 0);
        Due.is("15: as full as can be, b", full.trim(0), 0);
        Due.is("15: as full as can be, a", full.trim(1), 64);
        BoatTrim x = new BoatTrim();
        x.hull(3);
        x.section(0, 5, 0);
        x.section(1, 3, 0);
        x.section(2, 3, 0);
        x.set(0, 1);
        x.set(1, 8);
        x.put(1, CASE, 1, 1, 0, 0);
        // By 13 a is 65: 5 times 39, and the others full; by 12 it is 63, and the midst lacks 3.
        Due.is("16: by 12", x.off(12), 2 * 189 + 4 * 192 - 64 * 18);
        for (int b = 13; b <= 20; b++) Due.is("16: by " + b, x.off(b), 0);
        Due.is("15: a above DEEP, b", x.trim(0), 13);
        Due.is("15: a above DEEP, a", x.trim(1), 65);
        Due.is("15: a above DEEP, OFF", x.trim(2), 0);
    }

    /** "of like ones the one with the least without its sign, then the one below 0; its a; its OFF" */
    private static void ofLikeSlopes() {
        BoatTrim x = new BoatTrim();
        x.hull(3);
        x.section(0, 16, 0);
        x.section(1, 34, 0);
        x.section(2, 10, 0);
        x.set(1, 1);
        // By -1: 48, 34, 0, so OFF -60; by 1: 0, 34, 30, so OFF 60.
        Due.is("16: as far below", x.off(-1), -60);
        Due.is("16: as far above", x.off(1), 60);
        Due.is("15: the one below 0", x.trim(0), -1);
        Due.is("15: its a", x.trim(1), 1);
        Due.is("15: its OFF", x.trim(2), -60);
        BoatTrim y = boat(2, 10, 20, 400);
        for (int b = -20; b <= 20; b++) Due.is("16: full, off(" + b + ")", y.off(b), 0);
        Due.is("15: the least without its sign", y.trim(0), 0);
    }

    /** "NOT: it sinks by each." */
    private static void itSinksByEach() {
        BoatTrim x = boat(10, 10, 1, 101);
        for (int b = -20; b <= 20; b++) Due.is("16: it sinks, off(" + b + ")", x.off(b), VOID);
        for (int what = 0; what < 3; what++) Due.is("15: it sinks, trim(" + what + ")", x.trim(what), VOID);
        x.set(0, 2);
        for (int what = 0; what < 3; what++) Due.is("15: it is DEEP enough, trim(" + what + ")", x.trim(what), what == 1 ? 65 : what == 0 ? 0 : 50 * 90 * 13 - 64 * 909);
    }

    /** "RIGHTING: .. WIDE times WIDE times WIDE by 12 (cut), together" */
    private static void rightingByTwelve() {
        int[][] due = {{1, 0}, {2, 0}, {3, 2}, {4, 5}, {5, 10}, {6, 18}, {10, 83}, {11, 110}, {12, 144}, {39, 4943}, {40, 5333}};
        for (int[] d : due) {
            for (int n = 2; n <= 10; n += 4) Due.is("12: RIGHTING of " + n + " of WIDE " + d[0], boat(n, d[0], 20, 1).told(4), n * d[1]);
        }
    }

    /** "of each SECTION that has WATER at LINE" */
    private static void rightingOfWhatHasWater() {
        BoatTrim x = boat(2, 10, 20, 100);
        x.section(0, 20, 10);
        Due.is("14: LINE is at RISE", x.line(), 640);
        Due.is("12: the other alone", x.told(4), 83);
        x.set(1, 101);
        Due.is("14: LINE is above RISE", x.line(), 643);
        Due.is("12: both", x.told(4), 83 + 666);
        x.set(1, 99);
        Due.is("14: LINE is below RISE", x.line(), 634);
        Due.is("12: the other alone, too", x.told(4), 83);
    }

    /** "less of each SLACK TANK BREADTH likewise; less ALOFT by 16 (cut)" */
    private static void rightingLess() {
        int[][] breadths = {{1, 0}, {2, 0}, {3, 2}, {5, 10}, {19, 571}, {20, 666}};
        for (int[] b : breadths) {
            BoatTrim x = boat(4, 40, 60, 1);
            for (int tank = 0; tank < 4; tank++) x.tank(tank, 0, b[0], 2);
            x.fill(3, 1);
            Due.is("12: less a SLACK one of BREADTH " + b[0], x.told(4), 4 * 5333 - b[1]);
            for (int tank = 0; tank < 3; tank++) x.fill(tank, 1);
            Due.is("12: less four", x.told(4), 4 * 5333 - 4 * b[1]);
        }
        int[][] alofts = {{1, 0}, {15, 0}, {16, 1}, {17, 1}, {31, 1}, {32, 2}};
        for (int[] a : alofts) {
            BoatTrim x = new BoatTrim();
            x.put(1, CASE, a[0], 0, 0, 1);
            Due.is("12: less by an ALOFT of " + a[0], x.told(4), 332 - a[1]);
        }
        BoatTrim x = new BoatTrim();
        x.put(1, CASE, 133, 0, 0, 40);
        Due.is("12: nothing is left", x.told(4), 0);
        x.put(2, CASE, 16, 0, 0, 1);
        Due.is("12: below 0", x.told(4), -1);
        x.set(1, 9999);
        Due.is("12: it sinks", x.told(4), VOID);
    }

    /** A boat whose RIGHTING is so much (1 .. 83): one SECTION of WIDE 10, and ALOFT by CASES. */
    private static BoatTrim rightingOf(int righting) {
        BoatTrim x = boat(2, 1, 60, 1);
        x.section(0, 10, 0);
        if (righting < 83) x.put(26, CASE, (83 - righting) * 16 / 8, 0, 0, 8);
        return x;
    }

    /** "HEEL: 64 times ASIDE by RIGHTING (cut toward 0)" */
    private static void heelCut() {
        for (int righting = 1; righting <= 83; righting++) {
            BoatTrim x = rightingOf(righting);
            Due.is("12: RIGHTING", x.told(4), righting);
            Due.is("17: upright", x.heel(0), 0);
            x.put(1, CASE, 1, 0, 7, 0);
            Due.is("17: to the right by " + righting, x.heel(0), 448 / righting);
            x.move(1, 0, -7);
            Due.is("17: to the left by " + righting, x.heel(0), -(448 / righting));
        }
    }

    /** "NOT: it sinks, or RIGHTING is 0 or less." */
    private static void heelNot() {
        BoatTrim x = new BoatTrim();
        x.put(1, CASE, 132, 0, 1, 40);
        Due.is("17: RIGHTING 2", x.heel(0), 64 * 132 / 2);
        x.put(2, CASE, 16, 0, 0, 1);
        Due.is("17: RIGHTING 1", x.heel(0), 64 * 132);
        Due.is("18: RIGHTING 1", x.steady(), 0);
        x.put(3, CASE, 16, 0, 0, 1);
        Due.is("12: RIGHTING 0", x.told(4), 0);
        for (int k = 0; k <= 20; k++) Due.is("17: RIGHTING 0, heel(" + k + ")", x.heel(k), VOID);
        Due.is("18: RIGHTING 0", x.steady(), NOT);
        x.put(4, CASE, 16, 0, 0, 1);
        Due.is("12: RIGHTING -1", x.told(4), -1);
        for (int k = 0; k <= 20; k++) Due.is("17: RIGHTING -1, heel(" + k + ")", x.heel(k), VOID);
        Due.is("18: RIGHTING -1", x.steady(), NOT);
        BoatTrim sunk = boat(2, 10, 1, 21);
        for (int k = 0; k <= 20; k++) Due.is("17: it sinks, heel(" + k + ")", sunk.heel(k), VOID);
        Due.is("18: it sinks", sunk.steady(), NOT);
        Due.is("17: k out of its range, where it sinks", sunk.heel(21), VOID);
    }

    /** "the SIDE of each of GOODS being what it is and what it ROLLS by the HEEL ahead (held within -20 and 20)" */
    private static void rollingHeld() {
        int[][] casks = {{-20, 2}, {17, 2}, {18, 2}, {19, 1}, {20, 0}};
        for (int[] c : casks) Due.is("17: a CASK at " + c[0], rolled(CASK, c[0], 64), 64 + c[1]);
        for (int[] c : casks) Due.is("17: a CASK at " + -c[0], rolled(CASK, -c[0], -64), -64 - c[1]);
        int[][] kegs = {{-20, 4}, {15, 4}, {16, 4}, {17, 3}, {18, 2}, {19, 1}, {20, 0}};
        for (int[] k : kegs) Due.is("17: a KEG at " + k[0], rolled(KEG, k[0], 64), 64 + k[1]);
        for (int[] k : kegs) Due.is("17: a KEG at " + -k[0], rolled(KEG, -k[0], -64), -64 - k[1]);
        for (int side = -20; side <= 20; side += 10) Due.is("17: a CASE at " + side, rolled(CASE, side, 64), 64);
        // From side to side: 20 less 6000 by 32 is far beyond -20.
        Due.is("17: held on the other side", rolled(CASK, 20, -6000), -6000 - 40);
        Due.is("17: held on the other side, to the right", rolled(KEG, -20, 6000), 6000 + 40);
    }

    /** HEEL behind one round of one of WEIGHT 1 at a SIDE, with CASES that make HEEL what is told: RIGHTING is 64. */
    private static int rolled(int kind, int side, int heel) {
        BoatTrim x = rightingOf(64);
        x.put(1, kind, 1, 0, side, 0);
        int rest = heel - side;
        x.put(2, CASE, 1, 0, rest % 20, 0);
        if (rest / 20 != 0) x.put(3, CASE, Math.abs(rest / 20), 0, rest > 0 ? 20 : -20, 0);
        Due.is("17: HEEL ahead", x.heel(0), heel);
        Due.is("8: the SIDE stays", x.goods(1, 3), side);
        return x.heel(1);
    }

    /** "ROLLING, round by round", "STEADY: behind how many rounds (0 .. 20) HEEL is first as it is behind one more; NOT." */
    private static void roundsOfRolling() {
        // RIGHTING 64, a CASK of 32: behind each round HEEL grows by 32, till the CASK is at 20.
        for (int start = -2; start <= 19; start++) {
            BoatTrim x = rightingOf(64);
            x.put(1, CASK, 32, 0, start, 0);
            int rest = 32 - 32 * start;
            x.put(2, CASE, 2, 0, rest % 40 / 2, 0);
            if (rest / 40 != 0) x.put(3, CASE, Math.abs(rest / 40) * 2, 0, rest > 0 ? 20 : -20, 0);
            for (int k = 0; k <= 20; k++) Due.is("17: from " + start + " behind " + k, x.heel(k), 32 + 32 * Math.min(k, 20 - start));
            Due.is("18: from " + start, x.steady(), start >= 0 ? 20 - start : NOT);
            Due.is("17: behind 21", x.heel(21), VOID);
        }
    }

    /** "GROUNDED by a depth d (0 .. 9999, 64ths): LINE less 64 times the least RISE is more than d." */
    private static void grounded() {
        for (int shell = 1; shell <= 40; shell++) {
            BoatTrim x = boat(2, 10, 2, shell);
            int line = (64 * shell + 19) / 20;
            Due.is("14: LINE", x.line(), line);
            Due.is("19: one less than LINE", x.grounded(line - 1), 1);
            Due.is("19: as deep as LINE", x.grounded(line), 0);
            Due.is("19: no depth", x.grounded(0), 1);
            Due.is("19: the greatest depth", x.grounded(9999), 0);
            Due.is("19: below 0", x.grounded(-1), BAD);
            Due.is("19: above the most", x.grounded(10000), BAD);
        }
        BoatTrim x = boat(2, 10, 2, 41);
        Due.is("19: it sinks", x.grounded(0), STATE);
        Due.is("19: it sinks in the greatest depth", x.grounded(9999), STATE);
    }

    private static void groundedByRise() {
        BoatTrim x = boat(3, 10, 20, 100);
        x.section(0, 10, 7);
        x.section(1, 10, 5);
        x.section(2, 10, 6);
        Due.is("12: the least RISE of those there are", x.told(7), 5);
        // 6400: 30 LINE less 64 times 180: 597.3 and some.
        Due.is("14: LINE", x.line(), 598);
        Due.is("19: above the least RISE", x.grounded(598 - 320 - 1), 1);
        Due.is("19: as deep", x.grounded(598 - 320), 0);
    }

    /** "LIGHTEN by d: how much less ALL WEIGHT must be so that it is not (0: it is not)": it is tried. */
    private static void lightenAsMuchAsItTells() {
        int[] ds = {0, 1, 2, 63, 64, 65, 100, 256, 300, 639, 640, 641, 1279, 1280, 9999};
        int[] rises = {0, 1, 4};
        for (int rise : rises) {
            for (int d : ds) {
                lightenIsTried(300, rise, d);
                // 399 would be the most that floats.
                lightenIsTried(420, rise, d);
            }
        }
    }

    private static void lightenIsTried(int shell, int rise, int d) {
        BoatTrim x = boat(3, 7, 20, shell);
        for (int i = 0; i < 3; i++) x.section(i, 7, rise + i);
        int less = x.lighten(d);
        String told = "20: ALL WEIGHT " + shell + ", RISE " + rise + ", d " + d + ", LIGHTEN " + less;
        Due.is(told + " is 0 if it is not", less == 0 ? 1 : 0, x.grounded(d) == 0 ? 1 : 0);
        if (less != 0) {
            if (less < shell) {
                x.set(1, shell - less);
                Due.is(told + " is enough", x.grounded(d), 0);
            }
            x.set(1, shell - less + 1);
            Due.is(told + " is no more than enough", x.grounded(d), d >= 64 * (20 - rise) ? STATE : 1);
        }
        if (d == 0) Due.is(told + " of no depth", less, shell);
    }

    /** "MORE by a mark m (0 .. 64 times DEEP): how much more ALL WEIGHT may be so that LINE is m or less (below 0 ..)": it is tried. */
    private static void moreAsMuchAsItTells() {
        for (int deep = 1; deep <= 60; deep += 59) {
            int top = 64 * deep;
            int[] ms = {0, 1, 2, 31, 32, 33, 63, 64, top - 1, top};
            for (int m : ms) {
                BoatTrim x = boat(3, 11, deep, 20);
                x.section(1, 3, 1);
                int more = x.more(m);
                String told = "21: DEEP " + deep + ", m " + m + ", MORE " + more;
                if (20 + more > 0) {
                    x.set(1, 20 + more);
                    Due.is(told + " may be", x.line() != NOT && x.line() <= m ? 1 : 0, 1);
                } else {
                    Due.is(told + " leaves nothing", 20 + more, 0);
                }
                x.set(1, 20 + more + 1);
                Due.is(told + " is all that may be", x.line() == NOT || x.line() > m ? 1 : 0, 1);
            }
            BoatTrim x = boat(3, 11, deep, 20);
            Due.is("21: below 0", x.more(-1), VOID);
            Due.is("21: above DEEP", x.more(top + 1), VOID);
        }
    }
}
