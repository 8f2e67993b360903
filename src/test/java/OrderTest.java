/** Promises 22, 24 and 25: order, turn, change. */
public final class OrderTest {
    public static void main(String[] args) {
        order();
        balanced();
        turn();
        turnToTheRight();
        turnNot();
        change();
        changeNot();
        Due.end();
    }

    private static void order() {
        BoatTrim x = new BoatTrim();
        Due.is("22: nothing aboard", x.order(0, 0), BoatTrim.NOT);
        Desk.put(x, "zz", 0, 30, 0, 0, 5);
        Desk.put(x, "b", 0, 30, 0, 0, 7);
        Desk.put(x, "aa", 4, 27, 0, 0, 7);
        Desk.put(x, "a", 2, 28, 0, 0, 40);
        Due.is("22: by WEIGHT", Desk.order(x, 0), "b aa zz a");
        Due.is("22: by UP", Desk.order(x, 1), "a b aa zz");
        Due.is("22: by NAMES", Desk.order(x, 2), "a b aa zz");
        x.set(2, 1);
        Due.is("22: by WEIGHT, WET", Desk.order(x, 0), "aa a b zz");
        int[][] wrong = {{-1, 0}, {4, 0}, {0, -1}, {3, -1}, {-1, 9}};
        for (int[] w : wrong) Due.is("22: order(" + w[0] + ", " + w[1] + ")", x.order(w[0], w[1]), BoatTrim.BAD);
        for (int by = 0; by < 4; by++) {
            Due.is("22: not so many by " + by, x.order(by, 4), BoatTrim.NOT);
            Due.is("22: the most by " + by, x.order(by, Integer.MAX_VALUE), BoatTrim.NOT);
        }
    }

    private static void balanced() {
        BoatTrim x = new BoatTrim();
        Desk.put(x, "a", 0, 10, 0, 5, 0);
        Desk.put(x, "b", 0, 5, 0, -8, 0);
        Desk.put(x, "c", 0, 30, 0, -2, 0);
        Desk.put(x, "d", 0, 10, 0, -1, 0);
        // -10; then 40, -50, -70: a; then 0, -20: b; then c.
        Due.is("22: BALANCED", Desk.order(x, 3), "d a b c");
        BoatTrim y = new BoatTrim();
        Desk.put(y, "b", 0, 6, 0, -2, 0);
        Desk.put(y, "a", 0, 4, 0, 3, 0);
        Desk.put(y, "d", 0, 9, 0, 0, 0);
        Desk.put(y, "c", 0, 6, 0, 2, 0);
        // Without sign 12, 12, 12 and 0: d; of like ones the one that WEIGHS most: b ahead of c by NAMES.
        Due.is("22: BALANCED of like ones", Desk.order(y, 3), "d b c a");
        Desk.put(y, "e", 4, 6, 0, 0, 0);
        Due.is("22: BALANCED as it WEIGHS", Desk.order(y, 3), "d e b c a");
        Desk.put(y, "f", 2, 9, 0, 0, 0);
        Due.is("22: BALANCED by NAMES", Desk.order(y, 3), "d e f b c a");
        y.set(2, 1);
        Due.is("22: BALANCED, WET", Desk.order(y, 3), "f e d b c a");
    }

    private static void turn() {
        BoatTrim x = new BoatTrim();
        Desk.put(x, "c", 0, 10, 0, 5, 0);
        Due.is("24: 50 as -50 is not less", x.turn(), BoatTrim.NOT);
        Desk.put(x, "b", 0, 4, 0, 2, 0);
        // ASIDE 58: c makes -42, b makes 42: b by NAMES.
        Due.is("24: of like ones by NAMES", x.turn(), Desk.name("b"));
        Desk.put(x, "a", 0, 1, 0, 16, 0);
        // ASIDE 74: c makes -26, b 58, a 42.
        Due.is("24: the least", x.turn(), Desk.name("c"));
        Due.is("24: it stays at its SIDE", x.goods(Desk.name("c"), 3), 5);
        Desk.put(x, "d", 4, 9, 0, 3, 0);
        // ASIDE 110: c 10, d (WEIGHS 12) 38.
        Due.is("24: with a FELT", x.turn(), Desk.name("c"));
        x.move(Desk.name("d"), 0, 4);
        // ASIDE 122: c 22, d 26.
        Due.is("24: with a FELT at 4", x.turn(), Desk.name("c"));
        x.move(Desk.name("d"), 0, 5);
        // ASIDE 134: c 34, d 14.
        Due.is("24: a FELT", x.turn(), Desk.name("d"));
    }

    private static void turnToTheRight() {
        BoatTrim x = new BoatTrim();
        Desk.put(x, "a", 0, 10, 0, -5, 0);
        Desk.put(x, "b", 0, 6, 0, -4, 0);
        Desk.put(x, "c", 0, 6, 0, 4, 0);
        Desk.put(x, "d", 0, 3, 0, -2, 0);
        // ASIDE -56: a makes 44, b -8, c -104, d -44.
        Due.is("24: to the right", x.turn(), Desk.name("b"));
        x.take(Desk.name("d"));
        Due.is("24: behind one that went", x.turn(), Desk.name("b"));
        x.take(Desk.name("b"));
        // ASIDE -26: a makes 74, c -74.
        Due.is("24: none is less", x.turn(), BoatTrim.NOT);
    }

    private static void turnNot() {
        BoatTrim x = new BoatTrim();
        Due.is("24: nothing aboard", x.turn(), BoatTrim.NOT);
        Desk.put(x, "a", 0, 10, 0, 5, 0);
        Desk.put(x, "b", 0, 10, 0, -5, 0);
        Due.is("24: upright", x.turn(), BoatTrim.NOT);
        Desk.put(x, "c", 0, 10, 0, 0, 0);
        Due.is("24: none at a SIDE to turn", x.turn(), BoatTrim.NOT);
        x.move(Desk.name("c"), 0, 1);
        Due.is("24: 10 as -10 is not less", x.turn(), BoatTrim.NOT);
        x.set(1, 9999);
        x.move(Desk.name("b"), 0, -1);
        // ASIDE 50; a makes -50.
        Due.is("24: a is not less", x.turn(), Desk.name("c"));
    }

    private static void change() {
        BoatTrim x = new BoatTrim();
        x.hull(2);
        Desk.put(x, "b", 0, 20, 1, 0, 0);
        Desk.put(x, "a", 0, 10, 0, 0, 0);
        // ALL WEIGHT 130: a is 416, WATER times 2 8320; ALONG 140: OFF -640. Changed: ALONG 120: OFF 640.
        Due.is("25: not less", x.change(0), BoatTrim.NOT);
        Desk.put(x, "d", 0, 25, 1, 0, 0);
        Desk.put(x, "c", 0, 15, 0, 0, 0);
        // ALL WEIGHT 170, ALONG 190: 20 too many. a-b 20 less, a-d 30, b-c 10, c-d 20.
        Due.is("25: the one", x.change(0), Desk.name("a"));
        Due.is("25: the other", x.change(1), Desk.name("b"));
        x.move(Desk.name("b"), 0, 0);
        // ALONG 150: 20 too few. a-d 30 less, b-d 10 less, c-d 20 less still.
        Due.is("25: the wrong way", x.change(0), BoatTrim.NOT);
        Due.is("25: change(-1)", x.change(-1), BoatTrim.BAD);
        Due.is("25: change(2)", x.change(2), BoatTrim.BAD);
        Due.is("25: SECTIONS stay", x.goods(Desk.name("d"), 2), 1);
        changeByTheOther();
        changeOfTheLast();
    }

    private static void changeByTheOther() {
        BoatTrim x = new BoatTrim();
        x.hull(3);
        Desk.put(x, "a", 2, 40, 2, 0, 0);
        Desk.put(x, "b", 0, 40, 1, 0, 0);
        Due.is("25: like ones change nothing", x.change(1), BoatTrim.NOT);
        x.set(2, 1);
        // The WOOL WEIGHS 50: ALONG 480 of 190 aboard: changed 460, and 380 is level.
        Due.is("25: as it WEIGHS", x.change(0) * 27 + x.change(1), 29);
        Desk.put(x, "c", 0, 40, 0, 0, 0);
        // ALL WEIGHT 230, ALONG 480, level 460: a-b 20 less, a-c 40 less.
        Due.is("25: level", x.change(0) * 27 + x.change(1), 29);
        x.move(Desk.name("b"), 0, 0);
        // ALONG 400: all ways are down.
        Due.is("25: none helps", x.change(0), BoatTrim.NOT);
    }

    private static void changeOfTheLast() {
        BoatTrim x = new BoatTrim();
        x.hull(2);
        Desk.put(x, "a", 0, 10, 1, 0, 0);
        Desk.put(x, "b", 0, 10, 1, 0, 0);
        Desk.put(x, "c", 0, 30, 1, 0, 0);
        Desk.put(x, "d", 0, 10, 0, 0, 0);
        // ALL WEIGHT 160, ALONG 200: c-d 40 less, and that is level; a, b, d are like ones.
        Due.is("25: the one", x.change(0), Desk.name("c"));
        Due.is("25: the other", x.change(1), Desk.name("d"));
        x.take(Desk.name("d"));
        Due.is("25: behind one that went", x.change(0), BoatTrim.NOT);
    }

    private static void changeNot() {
        BoatTrim x = new BoatTrim();
        Due.is("25: nothing aboard", x.change(0), BoatTrim.NOT);
        Desk.put(x, "a", 0, 10, 3, 0, 0);
        Due.is("25: one alone", x.change(1), BoatTrim.NOT);
        Desk.put(x, "b", 0, 20, 3, 0, 0);
        Due.is("25: two in one SECTION", x.change(0), BoatTrim.NOT);
        x.move(Desk.name("a"), 2, 0);
        Due.is("25: two in two", x.change(0), Desk.name("a"));
        x.set(1, 900);
        Due.is("25: it sinks", x.change(0), BoatTrim.NOT);
        Due.is("25: BAD where it sinks", x.change(2), BoatTrim.BAD);
    }
}
