/** Part 3 of the terms, sentence by sentence: ORDER, TURN, CHANGE, LINES of a landing, FITS, REPORT, ROWS, THE IMAGE. */
public final class PartThreeTest {
    private static final int BAD = BoatTrim.BAD, NOT = BoatTrim.NOT, STATE = BoatTrim.STATE, VOID = BoatTrim.VOID;
    private static final int CASE = 0, CASK = 1, WOOL = 2, KEG = 3, FELT = 4;

    public static void main(String[] args) {
        orderByWeight();
        orderByUp();
        orderOfSixteen();
        balanced();
        balancedOfLikeOnes();
        turnIsLess();
        turnOfLikeOnes();
        turnOfNone();
        changeIsLess();
        changeJustLess();
        changeOfLikeOnes();
        changeOfNone();
        linesOfALanding();
        linesWhereItSinks();
        fitsByEachPlace();
        fitsTheLeastAndTheMost();
        fitsWhatIsNoLine();
        fitsGoesByOrder();
        reportOfEachKind();
        reportOfFigures();
        reportOfSides();
        reportOfNoneAndOfSixteen();
        rows();
        theImage();
        Due.end();
    }

    /** "ORDER by 0 WEIGHT (as it WEIGHS) ..: the greatest first; of like ones by NAMES" */
    private static void orderByWeight() {
        BoatTrim x = new BoatTrim();
        Desk.put(x, "b", WOOL, 11, 0, 0, 0);
        Desk.put(x, "zz", CASE, 13, 0, 0, 0);
        Desk.put(x, "a", FELT, 9, 0, 0, 0);
        Desk.put(x, "aa", CASE, 13, 0, 0, 0);
        Due.is("22: dry", Desk.order(x, 0), "aa zz a b");
        x.set(2, 1);
        // The WOOL WEIGHS 13, the FELT 14.
        Due.is("22: WET", Desk.order(x, 0), "a b aa zz");
        x.take(Desk.name("zz"));
        Desk.put(x, "zz", CASE, 999, 0, 0, 0);
        Due.is("22: the most first", Desk.order(x, 0), "zz a b aa");
    }

    /** "1 UP: the greatest first; of like ones by NAMES" */
    private static void orderByUp() {
        BoatTrim x = new BoatTrim();
        Desk.put(x, "d", CASE, 1, 0, 0, 0);
        Desk.put(x, "c", CASE, 999, 0, 0, 39);
        Desk.put(x, "b", CASE, 5, 0, 0, 40);
        Desk.put(x, "a", CASE, 7, 0, 0, 0);
        Desk.put(x, "aa", CASE, 7, 0, 0, 40);
        Due.is("22: by UP", Desk.order(x, 1), "b aa c a d");
    }

    /** Sixteen, the k-th (0 on): the first, the last, and behind it. */
    private static void orderOfSixteen() {
        BoatTrim x = new BoatTrim();
        for (int i = 1; i <= 16; i++) x.put(i, CASE, i * 5 % 17, 0, 0, i * 3 % 17);
        for (int k = 0; k < 16; k++) {
            Due.is("22: by WEIGHT, how much the " + k + "-th", x.goods(x.order(0, k), 1), 16 - k);
            Due.is("22: by UP, how high the " + k + "-th", x.goods(x.order(1, k), 4), 16 - k);
            Due.is("22: by NAMES", x.order(2, k), k + 1);
            Due.is("22: BALANCED with all at SIDE 0: the one that WEIGHS most", x.order(3, k), x.order(0, k));
        }
        for (int by = 0; by < 4; by++) Due.is("22: the 16-th", x.order(by, 16), NOT);
        BoatTrim like = new BoatTrim();
        for (int i = 16; i >= 1; i--) like.put(i, CASE, 3, 0, 5, 7);
        for (int by = 0; by < 4; by++) {
            for (int k = 0; k < 16; k++) Due.is("22: like ones by " + by, like.order(by, k), k + 1);
        }
    }

    /** "BALANCED: .. each time that of the rest by which ASIDE of all that came so far is least without its sign" */
    private static void balanced() {
        BoatTrim x = new BoatTrim();
        Desk.put(x, "a", CASE, 10, 0, 10, 0);
        Desk.put(x, "b", CASE, 9, 0, -10, 0);
        Desk.put(x, "c", CASE, 1, 0, -20, 0);
        Desk.put(x, "d", CASE, 5, 0, 5, 0);
        // -20; 5 (d); then 105, -85: b; then a.
        Due.is("22: BALANCED", Desk.order(x, 3), "c d b a");
        x.move(Desk.name("d"), 0, 0);
        // d: 0; then c -20; then 80, -110: a; b.
        Due.is("22: BALANCED, one amidships first", Desk.order(x, 3), "d c a b");
        x.set(1, 9999);
        Due.is("22: BALANCED where it sinks", Desk.order(x, 3), "d c a b");
    }

    /** "of like ones the one that WEIGHS most, then by NAMES" */
    private static void balancedOfLikeOnes() {
        BoatTrim x = new BoatTrim();
        Desk.put(x, "a", CASE, 2, 0, 6, 0);
        Desk.put(x, "b", CASE, 3, 0, -4, 0);
        Desk.put(x, "c", CASE, 3, 0, 4, 0);
        Desk.put(x, "d", FELT, 1, 0, 3, 0);
        // All are 12 aside: d WEIGHS 4; then 24, 0, 24: b; then a or c, which WEIGHS more.
        Due.is("22: of like ones", Desk.order(x, 3), "d b c a");
        x.set(2, 1);
        x.take(Desk.name("a"));
        Desk.put(x, "a", WOOL, 4, 0, 0, 0);
        Desk.put(x, "e", CASE, 5, 0, 0, 0);
        // The WOOL WEIGHS 5, as much as e.
        Due.is("22: of like ones as they WEIGH, by NAMES", Desk.order(x, 3), "a e d b c");
    }

    /** "TURN: the one whose SIDE with the other sign makes ASIDE of all least without its sign, less than as it is" */
    private static void turnIsLess() {
        BoatTrim x = new BoatTrim();
        Desk.put(x, "a", CASE, 1, 0, 20, 0);
        Due.is("24: as far on the other side", x.turn(), NOT);
        Desk.put(x, "b", CASE, 1, 0, 1, 0);
        // 21: a makes -19, b 19.
        Due.is("24: of like ones the first", x.turn(), Desk.name("a"));
        x.move(Desk.name("b"), 0, 2);
        // 22: a makes -18, b 18.
        Due.is("24: of like ones the first, again", x.turn(), Desk.name("a"));
        x.move(Desk.name("b"), 0, -1);
        // 19: a makes -21, b 21.
        Due.is("24: none is less", x.turn(), NOT);
        x.move(Desk.name("a"), 0, -20);
        x.move(Desk.name("b"), 0, -3);
        Desk.put(x, "c", CASE, 2, 0, -5, 0);
        // -33: a 7, b -27, c -13.
        Due.is("24: to the right", x.turn(), Desk.name("a"));
        Due.is("24: nothing is turned", x.told(2), -33);
        x.set(2, 1);
        Desk.put(x, "d", FELT, 4, 0, -2, 0);
        // The FELT WEIGHS 8: -49: a -9, c -29, d -17.
        Due.is("24: among what WEIGHS more", x.turn(), Desk.name("a"));
        x.move(Desk.name("d"), 0, -3);
        // -57: a -17, d -9.
        Due.is("24: as it WEIGHS", x.turn(), Desk.name("d"));
    }

    /** "of like ones the first by NAMES" */
    private static void turnOfLikeOnes() {
        BoatTrim x = new BoatTrim();
        String[] names = {"zz", "b", "aaa", "c"};
        for (String name : names) Desk.put(x, name, CASE, 2, 0, 5, 0);
        Due.is("24: of like ones", x.turn(), Desk.name("b"));
        x.take(Desk.name("b"));
        Due.is("24: of the rest", x.turn(), Desk.name("c"));
        x.take(Desk.name("c"));
        Due.is("24: of two", x.turn(), Desk.name("zz"));
        x.take(Desk.name("zz"));
        Due.is("24: of one", x.turn(), NOT);
    }

    /** "NOT" */
    private static void turnOfNone() {
        BoatTrim x = new BoatTrim();
        Due.is("24: nothing aboard", x.turn(), NOT);
        Desk.put(x, "a", CASE, 999, 0, 0, 0);
        Due.is("24: all amidships", x.turn(), NOT);
        Desk.put(x, "b", CASE, 1, 0, 20, 0);
        Desk.put(x, "c", CASE, 1, 0, -20, 0);
        Due.is("24: upright as it is", x.turn(), NOT);
        Desk.put(x, "d", CASE, 1, 0, 1, 0);
        x.set(1, 9999);
        Due.is("24: d alone would, as far on the other side", x.turn(), NOT);
        x.move(Desk.name("c"), 0, -1);
        // 20: b makes -20, c 22, d 18; that it sinks is nothing to it.
        Due.is("24: where it sinks", x.turn(), Desk.name("d"));
    }

    /** "CHANGE: the two whose change of SECTIONS makes OFF of slope 0 least without its sign, less than as it is" */
    private static void changeIsLess() {
        BoatTrim x = new BoatTrim();
        x.hull(2);
        for (int i = 0; i < 2; i++) x.section(i, 16, 0);
        x.set(1, 40);
        Desk.put(x, "a", CASE, 20, 0, 0, 0);
        Desk.put(x, "b", CASE, 10, 1, 0, 0);
        // LINE 140: 16 times 140 times 2 is 4480, ALONG 60: OFF 640; changed: ALONG 80, OFF -640.
        Due.is("16: OFF", x.off(0), 640);
        Due.is("25: as far on the other side", x.change(0), NOT);
        Due.is("25: as far on the other side, the other", x.change(1), NOT);
        Desk.put(x, "c", CASE, 20, 1, 0, 0);
        // ALL WEIGHT 90, ALONG 100, level 90: a-b makes 120, a-c nothing.
        Due.is("25: from bad to worse", x.change(0), NOT);
        x.set(2, 1);
        Desk.put(x, "d", FELT, 8, 1, 0, 0);
        // The FELT WEIGHS 13: 103, ALONG 126: a-b 20 more, a-c none, a-d 14 more.
        Due.is("25: worse still", x.change(1), NOT);
        x.move(Desk.name("a"), 1, 0);
        x.move(Desk.name("d"), 0, 0);
        // ALONG 140, level 103: a-d 14 less, b-d 6 more, c-d 14 less.
        Due.is("25: the one", Desk.letters(x.change(0)), "a");
        Due.is("25: the other", Desk.letters(x.change(1)), "d");
        Due.is("25: they stay", x.goods(Desk.name("a"), 2) * 10 + x.goods(Desk.name("d"), 2), 10);
        x.set(2, 0);
        // The FELT WEIGHS 11: b-d 2 more, a-d, c-d 18 less.
        Due.is("25: dry", x.change(0) * 100 + x.change(1), 104);
    }

    /** One more or less of ALONG than what makes it as far on the other side. */
    private static void changeJustLess() {
        BoatTrim x = new BoatTrim();
        x.hull(2);
        for (int i = 0; i < 2; i++) x.section(i, 16, 0);
        Desk.put(x, "a", CASE, 20, 0, 0, 0);
        Desk.put(x, "b", CASE, 10, 1, 0, 0);
        Desk.put(x, "c", CASE, 1, 0, 0, 0);
        // OFF is 64 times what is in SECTION 0 less what is in SECTION 1: 11; a-b makes -9.
        Due.is("16: OFF", x.off(0), 64 * 11);
        Due.is("25: just less", x.change(0) * 100 + x.change(1), 102);
        x.move(Desk.name("c"), 1, 0);
        // 9; a-b makes -11.
        Due.is("16: OFF with c astern", x.off(0), 64 * 9);
        Due.is("25: just not less", x.change(0), NOT);
        x.move(Desk.name("c"), 0, 0);
        x.move(Desk.name("a"), 1, 0);
        x.move(Desk.name("b"), 0, 0);
        // -9; a-b makes 11, a-c 29.
        Due.is("25: just not less, by the stern", x.change(0), NOT);
        x.move(Desk.name("c"), 1, 0);
        // -11; a-b makes 9.
        Due.is("25: just less, by the stern", x.change(0) * 100 + x.change(1), 102);
    }

    /** "of like ones the first by NAMES (the one, then the other)" */
    private static void changeOfLikeOnes() {
        BoatTrim x = new BoatTrim();
        x.hull(2);
        String[] names = {"bb", "aa", "b", "a"};
        for (int i = 0; i < 4; i++) Desk.put(x, names[i], CASE, 10 + 5 * (i / 2), i / 2, 0, 0);
        // a and b of 15 in SECTION 1, aa and bb of 10 in SECTION 0: each change makes 10 less.
        Due.is("16: OFF as it is", x.off(0) < 0 ? 1 : 0, 1);
        Due.is("25: the first of the ones", Desk.letters(x.change(0)), "a");
        Due.is("25: its first other", Desk.letters(x.change(1)), "aa");
        x.move(Desk.name("aa"), 1, 0);
        Due.is("25: the other that is left", Desk.letters(x.change(1)), "bb");
        x.take(Desk.name("a"));
        Due.is("25: the one that is left", Desk.letters(x.change(0)), "b");
    }

    /** "NOT (also if it sinks by slope 0)", "CHANGE of two in one SECTION makes nothing less." */
    private static void changeOfNone() {
        BoatTrim x = new BoatTrim();
        Due.is("25: nothing aboard", x.change(0), NOT);
        Desk.put(x, "a", CASE, 30, 3, 0, 0);
        Due.is("25: one alone", x.change(0), NOT);
        Desk.put(x, "b", CASE, 10, 3, 0, 0);
        Due.is("25: two in one SECTION", x.change(0), NOT);
        x.move(Desk.name("b"), 2, 0);
        Due.is("25: two in two", x.change(0), Desk.name("a"));
        x.set(1, 761);
        Due.is("25: it sinks by one", x.change(0), NOT);
        Due.is("25: it sinks by one, the other", x.change(1), NOT);
        x.set(1, 760);
        Due.is("25: it floats by none", x.change(0), Desk.name("a"));
        Due.is("25: what out of its range", x.change(2), BAD);
    }

    /** "LINES of a landing: GOODS go ashore by ORDER 0 one behind another: LINE (NOT, too) behind 0, 1, .. of them." */
    private static void linesOfALanding() {
        BoatTrim x = new BoatTrim();
        for (int i = 0; i < 4; i++) x.section(i, 16, 0);
        Due.is("34: of none", x.film(0), 1);
        Due.is("34: LINE alone", Desk.row(x, 0), "100");
        Desk.put(x, "a", CASE, 3, 0, 0, 0);
        Desk.put(x, "b", FELT, 4, 0, 0, 0);
        Desk.put(x, "c", CASE, 6, 0, 0, 0);
        Due.is("34: of three", x.film(0), 4);
        Due.is("34: by what they WEIGH", Desk.row(x, 0), "116 109 103 100");
        x.set(2, 1);
        x.film(1);
        Due.is("34: WET", Desk.row(x, 1), "117 109 103 100");
        Due.is("34: the older one stays", Desk.row(x, 0), "116 109 103 100");
        x.film(0);
        Due.is("34: over it", Desk.row(x, 0), "117 109 103 100");
        Due.is("34: all stay aboard", Desk.report(x), "ac3@0;bf4@0;cc6@0;");
        for (int i = 4; i <= 16; i++) x.put(i, CASE, 1, 0, 0, 0);
        Due.is("34: of sixteen", x.film(2), 17);
        Due.is("34: of sixteen, LINES", Desk.row(x, 2), "130 122 116 113 112 111 110 109 108 107 106 105 104 103 102 101 100");
    }

    private static void linesWhereItSinks() {
        BoatTrim x = new BoatTrim();
        Desk.put(x, "a", CASE, 700, 0, 0, 0);
        x.film(0);
        Due.is("34: as DEEP as can be", Desk.row(x, 0), "1280 160");
        Desk.put(x, "b", CASE, 1, 0, 0, 0);
        x.film(0);
        Due.is("34: NOT behind none", Desk.row(x, 0), "-2 162 160");
        x.set(1, 801);
        x.film(0);
        Due.is("34: NOT behind all", Desk.row(x, 0), "-2 -2 -2");
        x.row(1, 40);
        x.store(1, 39, 9);
        Due.is("34: over a longer one", x.film(1), 3);
        Due.is("34: it has no more places", x.get(1, 3), VOID);
    }

    /** Four SECTIONS of 16: LINE is ALL WEIGHT. a WEIGHS 20, b 30. */
    private static BoatTrim twoToFit() {
        BoatTrim x = new BoatTrim();
        for (int i = 0; i < 4; i++) x.section(i, 16, 0);
        Desk.put(x, "a", CASE, 20, 0, 0, 0);
        Desk.put(x, "b", CASE, 30, 0, 0, 0);
        x.film(0);
        return x;
    }

    /** "FITS: a ROW tells such (its first m places, 0 .. 17; that many only, if there are so many)" */
    private static void fitsByEachPlace() {
        BoatTrim x = twoToFit();
        Due.is("26: LINES", Desk.row(x, 0), "150 120 100");
        int[] howMany = {999, 1, 1, 1};
        int[] least = {1, 20, 20, 20};
        for (int m = 0; m <= 3; m++) {
            Due.is("26: by " + m + ", how many", x.fits(0, m, 1, 0), howMany[m]);
            Due.is("26: by " + m + ", the least", x.fits(0, m, 1, 1), least[m]);
        }
        Due.is("26: the ROW has no four", x.fits(0, 4, 1, 0), -13);
        x.row(1, 17);
        int[] lines = {150, 120, 100};
        for (int i = 0; i < 3; i++) x.store(1, i, lines[i]);
        Due.is("26: by three of seventeen", x.fits(1, 3, 1, 1), 20);
        Due.is("26: four LINES aren't there", x.fits(1, 4, 1, 1), STATE);
        Due.is("26: seventeen aren't there", x.fits(1, 17, 1, 1), STATE);
        Due.is("26: eighteen never are", x.fits(1, 18, 1, 1), BAD);
        for (int i = 0; i < 3; i++) {
            x.store(1, i, lines[i] + 1);
            Due.is("26: not by place " + i, x.fits(1, 3, 1, 0), 0);
            Due.is("26: not by place " + i + ", the least", x.fits(1, 3, 1, 1), NOT);
            Due.is("26: by those ahead of " + i, x.fits(1, i, 1, 0), howMany[i]);
            x.store(1, i, lines[i]);
        }
        Due.is("26: WEIGHT stays", x.goods(1, 1), 20);
    }

    /** "WEIGHTS (1 .. 999) of one of GOODS by which all of it is so: how many; the least (NOT)" */
    private static void fitsTheLeastAndTheMost() {
        BoatTrim x = twoToFit();
        x.row(0, 1);
        // SHELL 100 and b of 30 and WEIGHT.
        int[][] due = {{130, 0, NOT}, {131, 1, 1}, {132, 1, 2}, {1128, 1, 998}, {1129, 1, 999}, {1130, 0, NOT}, {1280, 0, NOT}, {NOT, 0, NOT}};
        for (int[] d : due) {
            x.store(0, 0, d[0]);
            Due.is("26: LINE " + d[0] + ", how many", x.fits(0, 1, 1, 0), d[1]);
            Due.is("26: LINE " + d[0] + ", the least", x.fits(0, 1, 1, 1), d[2]);
        }
        x.set(0, 10);
        x.store(0, 0, NOT);
        // It sinks by more than 640: WEIGHTS 511 .. 999.
        Due.is("26: what sinks, how many", x.fits(0, 1, 1, 0), 489);
        Due.is("26: what sinks, the least", x.fits(0, 1, 1, 1), 511);
        x.set(0, 2);
        Due.is("26: all sink, how many", x.fits(0, 1, 1, 0), 999);
        Due.is("26: all sink, the least", x.fits(0, 1, 1, 1), 1);
        BoatTrim y = new BoatTrim();
        y.put(1, WOOL, 5, 0, 0, 0);
        y.set(2, 1);
        for (int i = 0; i < 4; i++) y.section(i, 16, 0);
        y.row(0, 1);
        // What a WOOL WEIGHS jumps over 4, 9, 14, ..: 3 is 3, 4 is 5.
        int[][] wools = {{103, 1, 3}, {104, 0, NOT}, {105, 1, 4}, {1278, 1, 943}, {1279, 0, NOT}, {1280, 1, 944}};
        for (int[] w : wools) {
            y.store(0, 0, w[0]);
            Due.is("26: a WOOL by " + w[0], y.fits(0, 1, 1, 0), w[1]);
            Due.is("26: a WOOL by " + w[0] + ", the least", y.fits(0, 1, 1, 1), w[2]);
        }
    }

    /** A place may hold any int: one that is no LINE is none of them. */
    private static void fitsWhatIsNoLine() {
        BoatTrim x = twoToFit();
        int[] none = {0, -1, -3, -5, 1281, 9999, 65536 + 150, Integer.MIN_VALUE, Integer.MAX_VALUE};
        for (int line : none) {
            x.store(0, 0, line);
            Due.is("26: no LINE " + line, x.fits(0, 1, 1, 0), 0);
            Due.is("26: no LINE " + line + ", the least", x.fits(0, 1, 1, 1), NOT);
        }
        BoatTrim y = new BoatTrim();
        y.put(1, CASE, 1, 0, 0, 0);
        y.set(0, 1);
        y.set(1, 1);
        for (int i = 0; i < 4; i++) y.section(i, 1, 1);
        y.film(0);
        Due.is("34: nothing ever floats", Desk.row(y, 0), "-2 -2");
        Due.is("26: by what never floats", y.fits(0, 2, 1, 0), 999);
        y.store(0, 1, 64);
        Due.is("26: no LINE where nothing floats", y.fits(0, 2, 1, 0), 0);
        y.store(0, 1, 65);
        Due.is("26: no LINE above DEEP, either", y.fits(0, 2, 1, 0), 0);
    }

    /** With its WEIGHT the one may come earlier or later by ORDER 0; of like ones by NAMES. */
    private static void fitsGoesByOrder() {
        BoatTrim x = twoToFit();
        Due.is("26: b goes first by 30", x.fits(0, 2, 2, 1), 30);
        x.store(0, 0, 140);
        x.store(0, 1, 120);
        // a of 10: 140, 110; b of 20 goes behind a: 140, 120.
        Due.is("26: a of 10", x.fits(0, 2, 1, 0), 0);
        Due.is("26: b of 20, behind a", x.fits(0, 2, 2, 1), 20);
        x.store(0, 0, 130);
        x.store(0, 1, 110);
        Due.is("26: b of 10, behind a", x.fits(0, 2, 2, 1), 10);
        x.store(0, 0, 200);
        x.store(0, 1, 130);
        Due.is("26: a of 70, ahead of b", x.fits(0, 3, 1, 1), 70);
        x.store(0, 1, 170);
        Due.is("26: a of 70 goes not behind b", x.fits(0, 2, 1, 0), 0);
    }

    /** "its letters, one sign of its KIND (c k w g f for 0 .. 4), its WEIGHT in figures, @ and its SECTION" */
    private static void reportOfEachKind() {
        BoatTrim x = new BoatTrim();
        x.hull(10);
        x.set(2, 1);
        for (int kind = CASE; kind <= FELT; kind++) x.put(kind + 1, kind, 8, 2 * kind + 1, 0, 40);
        Due.is("27: each KIND", Desk.report(x), "ac8@1;bk8@3;cw8@5;dg8@7;ef8@9;");
        Due.is("27: how many signs", x.say(-1), 30);
        Due.is("27: the first", x.say(0), 'a');
        Due.is("27: the last", x.say(29), ';');
        Due.is("27: behind it", x.say(30), NOT);
        Due.is("27: below -1", x.say(-2), BAD);
    }

    private static void reportOfFigures() {
        int[] weights = {1, 9, 10, 11, 99, 100, 101, 110, 909, 990, 999};
        for (int weight : weights) {
            BoatTrim x = new BoatTrim();
            x.put(1, KEG, weight, 0, 0, 0);
            Due.is("27: WEIGHT " + weight, Desk.report(x), "ag" + weight + "@0;");
        }
    }

    /** "then, if SIDE is not 0, l or r (left, right) and SIDE without its sign, and ; behind each" */
    private static void reportOfSides() {
        BoatTrim x = new BoatTrim();
        x.put(1, CASE, 5, 3, 0, 0);
        for (int side = -20; side <= 20; side++) {
            x.move(1, 3, side);
            String due = side == 0 ? "" : (side < 0 ? "l" : "r") + Math.abs(side);
            Due.is("27: SIDE " + side, Desk.report(x), "ac5@3" + due + ";");
        }
    }

    private static void reportOfNoneAndOfSixteen() {
        BoatTrim x = new BoatTrim();
        Due.is("27: of none", x.say(-1), 0);
        Due.is("27: of none, no sign", x.say(0), NOT);
        StringBuilder due = new StringBuilder();
        for (int i = 0; i < 16; i++) {
            x.put(531440 - 15 + i, CASK, 984 + i, 3, i < 8 ? -20 : 20, 0);
            due.append("zzz").append((char) ('z' - 15 + i)).append('k').append(984 + i).append(i < 8 ? "@3l20;" : "@3r20;");
        }
        Due.is("27: of sixteen", Desk.report(x), due.toString());
        Due.is("27: its length, as long as can be", x.say(-1), 224);
        Due.is("27: its last sign", x.say(223), ';');
        Due.is("27: behind it", x.say(224), NOT);
    }

    /** "ROWS 0 .. 2 are missing (at first), or hold 0 .. 40 ints" */
    private static void rows() {
        for (int row = 0; row < 3; row++) {
            BoatTrim x = new BoatTrim();
            Due.is("1: missing at first", x.store(row, 0, 1), -11);
            Due.is("33: missing at first", x.get(row, 0), VOID);
            int[] sizes = {0, 1, 2, 39, 40};
            for (int n : sizes) {
                Due.is("31: row(" + row + ", " + n + ")", x.row(row, n), 1);
                for (int i = 0; i < n; i++) Due.is("31: all 0", x.get(row, i), 0);
                Due.is("33: none behind", x.get(row, n), VOID);
                Due.is("32: none behind", x.store(row, n, 1), -13);
                Due.is("32: none ahead", x.store(row, -1, 1), -13);
                if (n > 0) Due.is("32: the last", x.store(row, n - 1, n), 1);
                if (n > 0) Due.is("33: the last", x.get(row, n - 1), n);
            }
            Due.is("31: of 41", x.row(row, 41), BAD);
            Due.is("31: of -2", x.row(row, -2), -14);
            Due.is("33: both change nothing", x.get(row, 39), 40);
            Due.is("31: missing again", x.row(row, -1), 1);
            Due.is("33: so it holds none", x.get(row, 39), VOID);
            for (int other = 0; other < 3; other++) Due.is("32: all are missing", x.store(other, 0, 1), -11);
        }
        BoatTrim x = new BoatTrim();
        for (int row = 0; row < 3; row++) x.row(row, 2);
        int[] any = {Integer.MIN_VALUE, Integer.MAX_VALUE, -1, 0, -11, -13};
        for (int v : any) {
            Due.is("32: store(1, 0, " + v + ")", x.store(1, 0, v), 1);
            Due.is("33: get(1, 0)", x.get(1, 0), v);
            Due.is("33: beside it", x.get(1, 1), 0);
            Due.is("33: in the others", x.get(0, 0) + x.get(2, 0), 0);
        }
    }

    /** "THE IMAGE: THE HULL, GOODS, TANKS.": there is none, of none, of sixteen; it stays. */
    private static void theImage() {
        BoatTrim x = new BoatTrim();
        Due.is("36: there is none", x.undo(), STATE);
        Due.is("35: of none", x.image(), 0);
        for (int i = 1; i <= 16; i++) x.put(i, FELT, i, 0, i, i);
        Due.is("36: of none", x.undo(), 0);
        Due.is("37: nothing aboard", x.count(1), 0);
        for (int i = 1; i <= 16; i++) x.put(i, FELT, i, i % 4, i - 8, i);
        x.tank(0, 3, 4, 9);
        x.fill(0, 9);
        Due.is("35: of sixteen", x.image(), 16);
        String report = Desk.report(x);
        for (int again = 0; again < 2; again++) {
            for (int i = 1; i <= 16; i++) x.take(i);
            x.put(17, CASE, 1, 0, 0, 0);
            x.tank(0, 0, 0, 0);
            x.hull(3 + again);
            Due.is("36: of sixteen, " + again, x.undo(), 16);
            Due.is("36: the same, " + again, x.goods(16, 4) * 100 + x.goods(1, 1), 1601);
            Due.is("36: none beside them, " + again, x.goods(17, 0), VOID);
            Due.is("36: it HAS 9, " + again, x.fill(0, 9), 9);
            Due.is("36: SECTIONS, " + again, x.count(0), 4);
        }
        Due.is("36: REPORT", Desk.report(x), report);
    }
}
