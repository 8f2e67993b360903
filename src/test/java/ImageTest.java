/** Promises 35 and 36: image, undo. */
public final class ImageTest {
    public static void main(String[] args) {
        allComesBack();
        whatIsNoImage();
        Due.end();
    }

    private static void allComesBack() {
        BoatTrim x = new BoatTrim();
        Due.is("36: there is none", x.undo(), BoatTrim.STATE);
        Due.is("35: nothing aboard", x.image(), 0);
        x.hull(5);
        x.section(4, 33, 22);
        x.set(0, 44);
        x.set(1, 555);
        x.set(2, 1);
        x.tank(2, 3, 4, 50);
        x.fill(2, 6);
        Desk.put(x, "a", 1, 2, 3, 4, 5);
        Desk.put(x, "c", 2, 12, 4, -6, 7);
        Due.is("35: image()", x.image(), 2);
        int[] told = new int[8];
        for (int what = 0; what < 8; what++) told[what] = x.told(what);
        String report = Desk.report(x);
        x.hull(2);
        Desk.put(x, "z", 0, 1, 0, 0, 0);
        Due.is("36: undo()", x.undo(), 2);
        Due.is("36: REPORT", Desk.report(x), report);
        for (int what = 0; what < 8; what++) Due.is("36: told(" + what + ")", x.told(what), told[what]);
        int[] due = {5, 2, 44, 555, 1, 0, 1};
        for (int what = 0; what < due.length; what++) Due.is("36: count(" + what + ")", x.count(what), due[what]);
        Due.is("36: KIND", x.goods(3, 0), 2);
        Due.is("36: UP", x.goods(3, 4), 7);
        Due.is("36: it HOLDS", x.fill(2, 51), BoatTrim.STATE);
        Due.is("36: it HAD", x.fill(2, 50), 6);
        Due.is("36: WIDE and RISE", x.section(4, 1, 1), 3322);
        x.take(1);
        x.move(3, 0, 0);
        Due.is("36: again", x.undo(), 2);
        Due.is("36: WIDE and RISE again", x.section(4, 1, 1), 3322);
        Due.is("36: it HAD again", x.fill(2, 50), 6);
        Due.is("36: REPORT again", Desk.report(x), report);
    }

    private static void whatIsNoImage() {
        BoatTrim x = new BoatTrim();
        x.image();
        x.row(0, 2);
        x.store(0, 1, 9);
        x.feed('a');
        Due.is("36: undo()", x.undo(), 0);
        Due.is("36: ROWS stay", x.get(0, 1), 9);
        Due.is("36: THE TAPE stays", x.count(5), 1);
        Desk.put(x, "a", 0, 1, 0, 0, 0);
        Due.is("35: anew", x.image(), 1);
        x.take(1);
        Due.is("36: the newer one", x.undo(), 1);
    }
}
