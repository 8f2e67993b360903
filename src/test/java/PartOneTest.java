/** Part 1 of the terms, sentence by sentence: THE HULL, GOODS, NAMES, what they WEIGH and ROLL, TANKS, all of it together. */
public final class PartOneTest {
    private static final int BAD = BoatTrim.BAD, NOT = BoatTrim.NOT, STATE = BoatTrim.STATE, VOID = BoatTrim.VOID;
    private static final int CASE = 0, CASK = 1, WOOL = 2, KEG = 3, FELT = 4;

    public static void main(String[] args) {
        sections();
        eachAsLong();
        wideAndRise();
        deepShellWet();
        sixteenGoods();
        everyName();
        namesInOrder();
        theLeastAndTheMostOfGoods();
        weighs();
        rolls();
        whatIsNotToldOfAKind();
        tanks();
        whatATankHas();
        slack();
        allOfTheLeast();
        allOfTheMost();
        Due.end();
    }

    /** "THE HULL has SECTIONS 0 .. n - 1 (n 2 .. 10; 4 at first)" */
    private static void sections() {
        BoatTrim first = new BoatTrim();
        Due.is("1: SECTION 3 at first", first.section(3, 10, 0), 1000);
        Due.is("1: no SECTION 4 at first", first.section(4, 10, 0), BAD);
        for (int n = 2; n <= 10; n++) {
            BoatTrim x = new BoatTrim();
            Due.is("2: hull(" + n + ")", x.hull(n), 4);
            Due.is("37: SECTIONS", x.count(0), n);
            Due.is("3: the last of " + n, x.section(n - 1, 10, 0), 1000);
            Due.is("3: none behind " + n, x.section(n, 10, 0), BAD);
            Due.is("5: put into the last of " + n, x.put(1, 0, 1, n - 1, 0, 0), 1);
            Due.is("5: put behind " + n, x.put(2, 0, 1, n, 0, 0), BAD);
            Due.is("7: move to the first of " + n, x.move(1, 0, 0), n - 1);
            Due.is("7: move behind " + n, x.move(1, n, 0), BAD);
            Due.is("7: move to the last of " + n, x.move(1, n - 1, 0), 0);
            Due.is("10: tank in the last of " + n, x.tank(0, n - 1, 1, 1), 1);
            Due.is("10: tank behind " + n, x.tank(0, n, 1, 1), BAD);
            Due.is("13: water of the last of " + n, x.water(n - 1, 1), 10);
            Due.is("13: water behind " + n, x.water(n, 1), VOID);
            Due.is("13: water of all " + n, x.water(-1, 1), 10 * n);
        }
    }

    /** "each as long": ALONG of SHELL lies in the midst, and OFF of a level boat is 0. */
    private static void eachAsLong() {
        for (int n = 2; n <= 10; n++) {
            BoatTrim x = new BoatTrim();
            x.hull(n);
            x.set(1, 10 * n);
            Due.is("12: ALONG of " + n, x.told(1), 10 * n * (n - 1));
            Due.is("16: OFF of " + n, x.off(0), 0);
        }
    }

    /** "WIDE (1 .. 40; 10 at first) and RISE (0 .. 30; 0 at first)" */
    private static void wideAndRise() {
        BoatTrim x = new BoatTrim();
        int[][] due = {{1, 0, 1000}, {40, 30, 100}, {1, 30, 4030}, {40, 0, 130}, {10, 1, 4000}, {39, 29, 1001}, {2, 0, 3929}};
        for (int[] d : due) Due.is("3: section(2, " + d[0] + ", " + d[1] + ")", x.section(2, d[0], d[1]), d[2]);
        Due.is("3: WIDE 0", x.section(2, 0, 0), BAD);
        Due.is("3: WIDE 41", x.section(2, 41, 0), BAD);
        Due.is("3: RISE -1", x.section(2, 10, -1), BAD);
        Due.is("3: RISE 31", x.section(2, 10, 31), BAD);
        Due.is("3: the last that was told", x.section(2, 10, 0), 200);
        Due.is("3: those beside it", x.section(1, 10, 0) + x.section(3, 10, 0), 2000);
    }

    /** "DEEP 1 .. 60 (20 at first), SHELL 1 .. 9999 (100 at first: what THE HULL weighs), WET 0, 1 (0 at first)" */
    private static void deepShellWet() {
        int[][] due = {{0, 20, 1, 60}, {1, 100, 1, 9999}, {2, 0, 0, 1}};
        for (int[] d : due) {
            BoatTrim x = new BoatTrim();
            Due.is("1: at first " + d[0], x.count(d[0] + 2), d[1]);
            Due.is("4: below the least " + d[0], x.set(d[0], d[2] - 1), BAD);
            Due.is("4: above the most " + d[0], x.set(d[0], d[3] + 1), BAD);
            Due.is("4: the least " + d[0], x.set(d[0], d[2]), d[1]);
            Due.is("4: the most " + d[0], x.set(d[0], d[3]), d[2]);
            Due.is("37: it is the most " + d[0], x.count(d[0] + 2), d[3]);
        }
        BoatTrim x = new BoatTrim();
        x.set(1, 1);
        Due.is("4: what THE HULL weighs", x.told(0), 1);
    }

    /** "GOODS (16 at most)": by put, by THE TAPE, and again when one went. */
    private static void sixteenGoods() {
        BoatTrim x = new BoatTrim();
        for (int name = 16; name >= 1; name--) Due.is("5: put(" + name + ", ..)", x.put(name, 0, name, 0, 0, 0), 17 - name);
        Due.is("5: the seventeenth", x.put(17, 0, 1, 0, 0, 0), BoatTrim.FULL);
        Due.is("30: the seventeenth", Desk.read(x, "put zzzz 0 1 0 0 0"), -200);
        for (int name = 1; name <= 16; name++) Due.is("8: WEIGHT of " + name, x.goods(name, 1), name);
        Due.is("6: the last goes", x.take(16), 16);
        Due.is("30: another comes", Desk.read(x, "put zzzz 0 1 0 0 0"), 1);
        Due.is("5: FULL again", x.put(16, 0, 1, 0, 0, 0), BoatTrim.FULL);
        Due.is("6: the first goes", x.take(1), 1);
        Due.is("5: one comes ahead of all", x.put(1, 0, 7, 0, 0, 0), 16);
        Due.is("12: how many GOODS", x.told(5), 16);
        Due.is("12: ALL WEIGHT", x.told(0), 100 + 7 + (2 + 15) * 14 / 2 + 1);
    }

    /** "each of a NAME (1 to 4 letters a .. z; told as a number: its letters as digits of 27, a 1, the first one the highest)" */
    private static void everyName() {
        int names = 0;
        int wrong = 0;
        BoatTrim x = new BoatTrim();
        for (int number = 1; number <= 540000; number++) {
            if (number % 500 == 0) x = new BoatTrim();
            boolean isName = !Integer.toString(number, 27).contains("0") && number < 27 * 27 * 27 * 27;
            names += isName ? 1 : 0;
            wrong += x.next(number) == (isName ? NOT : BAD) ? 0 : 1;
        }
        Due.is("23: numbers that are taken for what they aren't", wrong, 0);
        Due.is("23: how many NAMES there are", names, 26 + 26 * 26 + 26 * 26 * 26 + 26 * 26 * 26 * 26);
        String[] letters = {"a", "z", "aa", "az", "za", "zz", "aaa", "abc", "zzz", "aaaa", "wxyz", "zzzz"};
        int[] numbers = {1, 26, 28, 53, 703, 728, 757, 786, 19682, 20440, 23 * 19683 + 24 * 729 + 25 * 27 + 26, 531440};
        for (int i = 0; i < letters.length; i++) {
            BoatTrim y = new BoatTrim();
            Due.is("5: " + letters[i], y.put(numbers[i], 0, 1, 0, 0, 0), 1);
            Due.is("27: its letters", Desk.report(y), letters[i] + "c1@0;");
            Due.is("30: by its letters", Desk.read(y, "take " + letters[i]), 1);
            Due.is("6: it is gone", y.take(numbers[i]), NOT);
        }
    }

    /** "NAMES are in the order: those of fewer letters first, of like many by their letters (as told numbers are)." */
    private static void namesInOrder() {
        String[] inOrder = {"a", "b", "y", "z", "aa", "ab", "az", "ba", "zz", "aaa", "aba", "baa", "zzz", "aaaa", "zzzy", "zzzz"};
        BoatTrim x = new BoatTrim();
        for (int i = 0; i < 16; i++) Desk.put(x, inOrder[i * 7 % 16], 0, 1, 0, 0, 0);
        Due.is("22: by NAMES", Desk.order(x, 2), String.join(" ", inOrder));
        int name = 0;
        for (String letters : inOrder) {
            name = x.next(name);
            Due.is("23: the next", Desk.letters(name), letters);
        }
        Due.is("23: behind the last", x.next(name), NOT);
        Due.is("23: behind one between them", Desk.letters(x.next(Desk.name("c"))), "y");
        Due.is("23: behind one of more letters", Desk.letters(x.next(Desk.name("zza"))), "zzz");
        for (String letters : inOrder) x.take(Desk.name(letters));
        Due.is("22: none is left", x.order(2, 0), NOT);
    }

    /** "a KIND: 0 .. 4 .., a WEIGHT (1 .. 999), in a SECTION, at a SIDE (-20 .. 20; below 0 to the left), UP (0 .. 40)" */
    private static void theLeastAndTheMostOfGoods() {
        int[][] bounds = {{0, 4}, {1, 999}, {0, 3}, {-20, 20}, {0, 40}};
        for (int i = 0; i < bounds.length; i++) {
            for (int k = 0; k < 2; k++) {
                BoatTrim x = new BoatTrim();
                int[] v = {2, 5, 1, 3, 7};
                v[i] = bounds[i][k] + (k == 0 ? -1 : 1);
                Due.is("5: beside it, " + i, x.put(1, v[0], v[1], v[2], v[3], v[4]), BAD);
                v[i] = bounds[i][k];
                Due.is("5: at it, " + i, x.put(1, v[0], v[1], v[2], v[3], v[4]), 1);
                for (int what = 0; what < 5; what++) Due.is("8: goods(1, " + what + ")", x.goods(1, what), v[what]);
            }
        }
        BoatTrim x = new BoatTrim();
        x.put(1, CASE, 10, 0, -1, 0);
        Due.is("17: to the left", x.heel(0), -640 / 332);
        Due.is("27: to the left", Desk.report(x), "ac10@0l1;");
        Due.is("7: to the right", x.move(1, 0, 1), 0);
        Due.is("17: to the right", x.heel(0), 640 / 332);
        Due.is("27: to the right", Desk.report(x), "ac10@0r1;");
    }

    /** "CASE: WEIGHT. WOOL: as a CASE, and if it is WET a fourth of that more (cut). FELT: 3 more than a WOOL." */
    private static void weighs() {
        int[][] woolOf = {{1, 1}, {2, 2}, {3, 3}, {4, 5}, {5, 6}, {7, 8}, {8, 10}, {99, 123}, {100, 125}, {998, 1247}, {999, 1248}};
        for (int[] w : woolOf) {
            BoatTrim x = new BoatTrim();
            for (int kind = CASE; kind <= FELT; kind++) x.put(kind + 1, kind, w[0], 0, 0, 0);
            int[] dry = {w[0], w[0], w[0], w[0], w[0] + 3};
            for (int kind = CASE; kind <= FELT; kind++) Due.is("8: dry " + w[0] + " of KIND " + kind, x.goods(kind + 1, 5), dry[kind]);
            Due.is("12: dry ALL WEIGHT", x.told(0), 100 + 5 * w[0] + 3);
            x.set(2, 1);
            int[] wet = {w[0], w[0], w[1], w[0], w[1] + 3};
            for (int kind = CASE; kind <= FELT; kind++) Due.is("8: WET " + w[0] + " of KIND " + kind, x.goods(kind + 1, 5), wet[kind]);
            Due.is("12: WET ALL WEIGHT", x.told(0), 100 + 3 * w[0] + 2 * w[1] + 3);
            for (int kind = CASE; kind <= FELT; kind++) {
                Due.is("9: WEIGHT of KIND " + kind, x.taken(kind + 1, 0), w[0]);
                Due.is("6: what it WEIGHS of KIND " + kind, x.take(kind + 1), wet[kind]);
            }
        }
    }

    /** "ROLLS by a HEEL h: CASE: 0. CASK: h by 32 (cut toward 0). KEG: twice a CASK's." */
    private static void rolls() {
        int[][] due = {{0, 0}, {31, 0}, {32, 1}, {63, 1}, {64, 2}, {95, 2}, {96, 3}, {127, 3}, {-31, 0}, {-32, -1}, {-63, -1}, {-64, -2},
            {-65, -2}, {-95, -2}, {-96, -3}};
        for (int[] d : due) {
            BoatTrim x = heeledBy(d[0]);
            Due.is("17: HEEL", x.heel(0), d[0]);
            int[] rolls = {0, d[1], 0, 2 * d[1], 0};
            for (int kind = CASE; kind <= FELT; kind++) Due.is("8: by " + d[0] + " KIND " + kind + " ROLLS", x.goods(kind + 1, 6), rolls[kind]);
        }
        BoatTrim sunk = heeledBy(64);
        sunk.set(1, 9999);
        for (int kind = CASE; kind <= FELT; kind++) Due.is("8: HEEL NOT there, KIND " + kind, sunk.goods(kind + 1, 6), 0);
    }

    /** One of each KIND at SIDE 0, and so much to a SIDE that ASIDE is h; HEEL, too: RIGHTING is 64. */
    private static BoatTrim heeledBy(int h) {
        BoatTrim x = new BoatTrim();
        for (int i = 1; i < 4; i++) x.section(i, 1, 0);
        x.set(0, 60);
        // 1000 by 12 and three times 1 by 12 are 83; less 304 by 16.
        x.put(6, CASE, 8, 0, 0, 38);
        for (int kind = CASE; kind <= FELT; kind++) x.put(kind + 1, kind, 1, 0, 0, 0);
        x.put(7, CASE, 1, 0, h % 20, 0);
        if (h / 20 != 0) x.put(8, CASE, Math.abs(h / 20), 0, h > 0 ? 20 : -20, 0);
        return x;
    }

    /** "What is not told of a KIND is as of the one it is under." */
    private static void whatIsNotToldOfAKind() {
        boolean[][] isUnder = {{true, false, false, false, false}, {true, true, false, false, false}, {true, false, true, false, false},
            {true, true, false, true, false}, {true, false, true, false, true}};
        BoatTrim x = new BoatTrim();
        x.set(2, 1);
        for (int kind = CASE; kind <= FELT; kind++) {
            x.put(kind + 1, kind, 40 + kind, 0, 0, 0);
            for (int k = CASE; k <= FELT; k++) {
                Due.is("9: KIND " + kind + " for a " + k, x.taken(kind + 1, k), isUnder[kind][k] ? 40 + kind : STATE);
            }
        }
        Due.is("8: a KEG WEIGHS as a CASK, as a CASE", x.goods(KEG + 1, 5), 43);
        Due.is("8: a FELT ROLLS as a WOOL, as a CASE", x.goods(FELT + 1, 6), 0);
    }

    /** "TANKS 0 .. 3: a SECTION, a BREADTH (0 .. 20; 0: there is none, at first), HOLDS (0 .. 999), HAS (0 .. HOLDS)." */
    private static void tanks() {
        for (int tank = 0; tank < 4; tank++) {
            BoatTrim x = new BoatTrim();
            Due.is("1: none at first, " + tank, x.fill(tank, 0), STATE);
            Due.is("37: none is there", x.count(6), 0);
            Due.is("10: BREADTH 0", x.tank(tank, 0, 0, 999), 1);
            Due.is("37: that is none", x.count(6), 0);
            Due.is("11: nor is it filled", x.fill(tank, 0), STATE);
            Due.is("10: BREADTH 1 that HOLDS 0", x.tank(tank, 0, 1, 0), 1);
            Due.is("37: that is one", x.count(6), 1);
            Due.is("11: it HAS 0", x.fill(tank, 0), 0);
            Due.is("11: it HOLDS 0", x.fill(tank, 1), STATE);
            Due.is("10: the greatest", x.tank(tank, 3, 20, 999), 1);
            Due.is("11: it HOLDS 999", x.fill(tank, 999), 0);
            Due.is("11: no more", x.fill(tank, 1000), STATE);
            Due.is("11: less", x.fill(tank, 998), 999);
            Due.is("11: below 0", x.fill(tank, -1), BAD);
            Due.is("11: none in it", x.fill(tank, 0), 998);
        }
    }

    /** "What it HAS weighs as much, at SIDE 0, UP 2." */
    private static void whatATankHas() {
        BoatTrim x = new BoatTrim();
        x.tank(1, 3, 1, 50);
        x.tank(3, 0, 1, 50);
        x.fill(1, 50);
        Due.is("12: ALL WEIGHT", x.told(0), 150);
        Due.is("12: ALONG", x.told(1), 300 + 300);
        Due.is("12: ASIDE", x.told(2), 0);
        Due.is("12: ALOFT", x.told(3), 100);
        x.fill(3, 7);
        Due.is("12: ALL WEIGHT of two", x.told(0), 157);
        Due.is("12: ALONG in SECTION 0", x.told(1), 600);
        Due.is("12: ALOFT of two", x.told(3), 114);
        Due.is("14: LINE goes by it", x.line(), 252);
    }

    /** "SLACK: HAS is neither 0 nor HOLDS." */
    private static void slack() {
        BoatTrim x = new BoatTrim();
        for (int tank = 0; tank < 4; tank++) x.tank(tank, tank, 12, tank);
        Due.is("12: all are empty", x.told(6), 0);
        // Each SLACK one takes 144 of RIGHTING; HAS of 8 takes one more by ALOFT.
        int[][] due = {{1, 1, 0}, {2, 1, 1}, {2, 2, 0}, {3, 1, 1}, {3, 2, 1}, {2, 1, 2}, {3, 3, 1}, {2, 0, 0}};
        for (int[] d : due) {
            x.fill(d[0], d[1]);
            Due.is("12: SLACK TANKS with " + d[0] + " having " + d[1], x.told(6), d[2]);
            Due.is("12: RIGHTING", x.told(4), 332 - 144 * d[2]);
        }
    }

    /** ALL WEIGHT, ALONG, ASIDE, ALOFT of the least there can be. */
    private static void allOfTheLeast() {
        BoatTrim x = new BoatTrim();
        x.hull(2);
        x.set(1, 1);
        int[] due = {1, 1, 0, 0, 166, 0, 0, 0};
        for (int what = 0; what < 8; what++) Due.is("12: the least, told(" + what + ")", x.told(what), due[what]);
        Due.is("14: the least, LINE", x.line(), 4);
    }

    /** .. and of the most: nothing wraps around. */
    private static void allOfTheMost() {
        for (int sign = -1; sign <= 1; sign += 2) {
            BoatTrim x = new BoatTrim();
            x.hull(10);
            x.set(1, 9999);
            x.set(2, 1);
            for (int i = 1; i <= 16; i++) x.put(531441 - i, FELT, 999, 9, 20 * sign, 40);
            for (int tank = 0; tank < 4; tank++) {
                x.tank(tank, 9, 20, 999);
                x.fill(tank, 999);
            }
            // A FELT of 999, WET: 999 and 249 and 3.
            int goods = 16 * 1251;
            Due.is("12: the most, ALL WEIGHT", x.told(0), 9999 + goods + 3996);
            Due.is("12: the most, ALONG", x.told(1), 9999 * 9 + (goods + 3996) * 18);
            Due.is("12: the most, ASIDE", x.told(2), goods * 20 * sign);
            Due.is("12: the most, ALOFT", x.told(3), goods * 40 + 3996 * 2);
            Due.is("14: the most sinks", x.line(), NOT);
            Due.is("20: the most, LIGHTEN", x.lighten(0), 34011);
            Due.is("21: the most, MORE", x.more(1280), 2000 - 34011);
        }
    }
}
