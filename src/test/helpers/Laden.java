/** A desk with something of everything: what a refused call could spoil. */
final class Laden {
    static final int A = 1, BB = 56, CCC = 2271, D = 4, E = 5, NOBODY = 6;
    /** How many calls desk() makes. */
    static final int CALLS = 48;

    private Laden() {
    }

    /** Four SECTIONS, DEEP 12, WET; KINDS 0 .. 4; TANKS half full, full, none and empty; an older IMAGE; a TEXT. */
    static BoatTrim desk() {
        BoatTrim x = new BoatTrim();
        x.hull(3);
        x.section(2, 9, 1);
        x.tank(3, 2, 5, 8);
        x.fill(3, 4);
        x.put(D, 4, 3, 2, 1, 1);
        x.image();
        x.hull(4);
        x.set(0, 12);
        x.set(1, 77);
        x.set(2, 1);
        x.section(0, 12, 2);
        x.section(3, 8, 1);
        x.put(A, 0, 9, 0, -5, 3);
        x.put(BB, 1, 12, 1, 6, 0);
        x.put(CCC, 2, 17, 2, -7, 1);
        x.put(D, 3, 8, 3, 20, 2);
        x.put(E, 4, 11, 3, 0, 4);
        x.tank(0, 1, 7, 9);
        x.fill(0, 4);
        x.tank(1, 2, 6, 5);
        x.fill(1, 5);
        x.tank(2, 1, 0, 5);
        x.tank(3, 3, 2, 6);
        x.row(0, 3);
        x.store(0, 1, 41);
        x.row(2, 0);
        Desk.feed(x, "put zz 1 5 0 3 2;wet 0");
        return x;
    }

    /** The same, too heavy to float. */
    static BoatTrim sunk() {
        BoatTrim x = desk();
        x.set(1, 9999);
        return x;
    }

    /** The same with sixteen GOODS: f .. p came, of WEIGHT 1. */
    static BoatTrim full() {
        BoatTrim x = desk();
        for (int name = NOBODY; name < NOBODY + 11; name++) x.put(name, 0, 1, 0, 0, 0);
        return x;
    }
}
