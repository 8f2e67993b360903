/** Promises 17 and 18: heel, steady. */
public final class HeelTest {
    public static void main(String[] args) {
        heel();
        rolling();
        held();
        steady();
        steadyAtLast();
        noHeel();
        Due.end();
    }

    private static void heel() {
        BoatTrim x = new BoatTrim();
        Due.is("17: nothing aboard", x.heel(0), 0);
        x.put(1, 0, 10, 0, 20, 0);
        // 64 times 200 by 332 = 38 and some; to the left likewise, cut toward 0.
        Due.is("17: to the right", x.heel(0), 38);
        x.move(1, 0, -20);
        Due.is("17: to the left", x.heel(0), -38);
        Due.is("17: a CASE rolls by no round", x.heel(20), -38);
        Due.is("17: heel(-1)", x.heel(-1), BoatTrim.VOID);
        Due.is("17: heel(21)", x.heel(21), BoatTrim.VOID);
    }

    private static void rolling() {
        BoatTrim x = new BoatTrim();
        x.put(1, 3, 50, 1, -7, 4);
        x.put(2, 1, 9, 3, 0, 0);
        // RIGHTING 320. A SIDE is moved from where it is told, not from where it rolled.
        int[] due = {-70, -113, -135, -157, -157};
        for (int k = 0; k < due.length; k++) Due.is("17: heel(" + k + ")", x.heel(k), due[k]);
        Due.is("17: the SIDE stays", x.goods(1, 3), -7);
        Due.is("18: behind three rounds", x.steady(), 3);
    }

    private static void held() {
        BoatTrim x = new BoatTrim();
        x.put(1, 3, 100, 0, 19, 0);
        x.put(2, 1, 1, 0, 0, 0);
        // 64 times 1900 by 332 = 366: the KEG rolls 22 and is held at 20, the CASK rolls 11.
        Due.is("17: HEEL", x.heel(0), 366);
        Due.is("17: held at 20", x.heel(1), 64 * 2011 / 332);
        x.move(1, 0, -19);
        Due.is("17: HEEL to the left", x.heel(0), -366);
        Due.is("17: held at -20", x.heel(1), -(64 * 2011 / 332));
    }

    private static void steady() {
        BoatTrim x = new BoatTrim();
        Due.is("18: nothing aboard", x.steady(), 0);
        x.put(1, 1, 100, 0, 20, 0);
        Due.is("18: held at once", x.steady(), 0);
        x.move(1, 0, 1);
        // HEEL 19 rolls nothing.
        Due.is("18: too little to roll", x.steady(), 0);
        x.move(1, 0, 2);
        // 38: rolls 1, so SIDE 3; 57: rolls 1 again.
        Due.is("18: behind one round", x.steady(), 1);
        for (int k = 0; k < 20; k++) {
            x.move(1, 0, k);
            int first = 0;
            while (x.heel(first) != x.heel(first + 1)) first++;
            Due.is("18: SIDE " + k, x.steady(), first);
        }
    }

    private static void steadyAtLast() {
        BoatTrim x = new BoatTrim();
        x.put(1, 0, 9, 0, -20, 0);
        x.put(2, 1, 166, 0, 0, 0);
        // 64 times 166 by 332 = 32: each round rolls the CASK one further, from 0 to -20.
        for (int k = 0; k <= 20; k++) Due.is("17: behind " + k, x.heel(k), 64 * (-180 - 166 * k) / 332);
        Due.is("18: behind twenty rounds", x.steady(), 20);
        x.move(2, 0, -1);
        x.take(1);
        x.put(1, 0, 1, 0, -14, 0);
        Due.is("18: behind nineteen rounds", x.steady(), 19);
        x.take(1);
        x.put(1, 0, 17, 0, -20, 0);
        x.move(2, 0, 1);
        Due.is("18: behind twenty-one", x.steady(), BoatTrim.NOT);
        theEdgeOfARoll();
    }

    private static void theEdgeOfARoll() {
        BoatTrim x = new BoatTrim();
        x.put(1, 1, 1, 0, 0, 0);
        x.put(2, 3, 1, 0, 0, 0);
        x.put(3, 0, 83, 0, 2, 0);
        // 64 times 166 by 332 = 32.
        Due.is("17: HEEL 32", x.heel(0), 32);
        Due.is("8: a CASK by 32", x.goods(1, 6), 1);
        Due.is("8: a KEG by 32", x.goods(2, 6), 2);
        x.move(1, 0, -1);
        Due.is("17: HEEL 31", x.heel(0), 31);
        Due.is("8: a CASK by 31", x.goods(1, 6), 0);
        Due.is("8: a KEG by 31", x.goods(2, 6), 0);
        x.move(3, 0, -4);
        x.move(1, 0, 0);
        Due.is("17: HEEL -64", x.heel(0), -64);
        Due.is("8: a CASK by -64", x.goods(1, 6), -2);
        Due.is("8: a KEG by -64", x.goods(2, 6), -4);
        x.move(1, 0, 1);
        Due.is("17: HEEL -63", x.heel(0), -63);
        Due.is("8: a CASK by -63", x.goods(1, 6), -1);
        Due.is("8: a KEG by -63", x.goods(2, 6), -2);
    }

    private static void noHeel() {
        BoatTrim x = new BoatTrim();
        x.put(1, 0, 132, 0, 20, 40);
        // ALOFT 5280 by 16 = 330 of 332.
        Due.is("17: RIGHTING 2", x.told(4), 2);
        Due.is("17: HEEL", x.heel(0), 32 * 2640);
        Due.is("18: HEEL", x.steady(), 0);
        x.put(4, 0, 1, 0, 0, 16);
        Due.is("17: RIGHTING 1", x.told(4), 1);
        Due.is("17: HEEL by 1", x.heel(0), 64 * 2640);
        Due.is("18: HEEL by 1", x.steady(), 0);
        x.take(4);
        x.put(2, 0, 32, 0, 0, 1);
        Due.is("17: RIGHTING 0", x.told(4), 0);
        Due.is("17: no HEEL", x.heel(0), BoatTrim.VOID);
        Due.is("18: no HEEL", x.steady(), BoatTrim.NOT);
        x.put(3, 0, 1, 0, 0, 16);
        Due.is("17: RIGHTING -1", x.told(4), -1);
        Due.is("17: no HEEL below 0", x.heel(3), BoatTrim.VOID);
        Due.is("18: no HEEL below 0", x.steady(), BoatTrim.NOT);
        BoatTrim y = new BoatTrim();
        y.set(1, 801);
        Due.is("17: it sinks", y.heel(0), BoatTrim.VOID);
        Due.is("18: it sinks", y.steady(), BoatTrim.NOT);
    }
}
