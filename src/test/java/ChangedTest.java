import java.util.Map;
import java.util.function.ToIntFunction;

/** What each call changes of a laden desk, and that it changes nothing else; what only asks changes nothing. */
public final class ChangedTest {
    public static void main(String[] args) {
        questionsChangeNothing();
        questionsChangeNothingWhereItSinks();
        callsOfTheHull();
        callsOfGoods();
        callsOfTanks();
        callsOfRows();
        callsOfTheTape();
        callsOfTheImage();
        hullMakesAllAsAtFirst();
        Due.end();
    }

    private static void changes(String call, String due, int answer, ToIntFunction<BoatTrim> asked) {
        BoatTrim x = Laden.desk();
        Map<String, String> ahead = Whole.of(Laden.desk());
        Due.is(call, asked.applyAsInt(x), answer);
        Due.is(call + ", what it changed", Whole.differences(ahead, Whole.of(x)), due);
    }

    private static int askAll(BoatTrim x) {
        for (int what = 0; what < 8; what++) x.told(what);
        for (int name : new int[] {Laden.A, Laden.BB, Laden.CCC, Laden.D, Laden.E}) {
            x.goods(name, 5);
            x.goods(name, 6);
            x.taken(name, 0);
            x.next(name);
        }
        for (int p = -100; p < 1000; p += 150) x.water(-1, p);
        for (int k = 0; k < 3; k++) {
            x.water(k, 300);
            x.trim(k);
            x.off(k - 1);
            x.heel(10 * k);
            x.grounded(100 * k);
            x.lighten(100 * k);
            x.more(100 * k);
            x.get(0, k);
            x.say(k - 1);
            x.count(k);
        }
        for (int by = 0; by < 4; by++) x.order(by, 4);
        for (int what = 0; what < 2; what++) {
            x.change(what);
            x.fits(0, 0, Laden.A, what);
            x.fits(0, 3, Laden.CCC, what);
        }
        x.turn();
        x.steady();
        return x.line();
    }

    private static void questionsChangeNothing() {
        changes("12 to 27: questions", "", Laden.desk().line(), ChangedTest::askAll);
    }

    private static void questionsChangeNothingWhereItSinks() {
        BoatTrim x = Laden.sunk();
        Map<String, String> ahead = Whole.of(Laden.sunk());
        Due.is("12 to 27: questions where it sinks", askAll(x), BoatTrim.NOT);
        Due.is("12 to 27: what they changed", Whole.differences(ahead, Whole.of(x)), "");
    }

    private static void callsOfTheHull() {
        changes("3: section(1, 40, 30)", "SECTION 1", 1000, x -> x.section(1, 40, 30));
        changes("4: set(0, 13)", "DEEP", 12, x -> x.set(0, 13));
        changes("4: set(1, 78)", "SHELL", 77, x -> x.set(1, 78));
        changes("4: set(2, 0)", "WET", 1, x -> x.set(2, 0));
        changes("4: set to what it was", "", 1, x -> x.set(2, 1));
        changes("3: section to what it was", "", 1202, x -> x.section(0, 12, 2));
    }

    private static void callsOfGoods() {
        changes("5: put(6, ..)", "GOODS f, THE TAPE", 6, x -> x.put(Laden.NOBODY, 2, 3, 1, 4, 5));
        changes("6: take(bb)", "GOODS bb, THE TAPE", 12, x -> x.take(Laden.BB));
        changes("6: take(ccc)", "GOODS ccc, THE TAPE", 21, x -> x.take(Laden.CCC));
        changes("6: take(e)", "GOODS e, THE TAPE", 11 + 2 + 3, x -> x.take(Laden.E));
        changes("7: move(a, 3, 20)", "GOODS a, THE TAPE", 0, x -> x.move(Laden.A, 3, 20));
        changes("7: move to where it is", "", 1, x -> x.move(Laden.BB, 1, 6));
    }

    private static void callsOfTanks() {
        changes("10: tank(2, 3, 1, 1)", "TANK 2", 1, x -> x.tank(2, 3, 1, 1));
        changes("10: tank(0, ..) as it is", "TANK 0", 1, x -> x.tank(0, 1, 7, 9));
        changes("10: tank(1, ..) is none", "TANK 1", 1, x -> x.tank(1, 2, 0, 5));
        changes("10: tank(3, ..) as it is, empty", "", 1, x -> x.tank(3, 3, 2, 6));
        changes("11: fill(0, 9)", "TANK 0", 4, x -> x.fill(0, 9));
        changes("11: fill(0, 0)", "TANK 0", 4, x -> x.fill(0, 0));
        changes("11: fill(3, 6)", "TANK 3", 0, x -> x.fill(3, 6));
        changes("11: fill(1, 5), as it is", "", 5, x -> x.fill(1, 5));
    }

    private static void callsOfRows() {
        changes("31: row(0, -1)", "ROW 0", 1, x -> x.row(0, -1));
        changes("31: row(0, 3), all 0", "ROW 0", 1, x -> x.row(0, 3));
        changes("31: row(1, 0)", "ROW 1", 1, x -> x.row(1, 0));
        changes("31: row(1, -1), missing still", "", 1, x -> x.row(1, -1));
        changes("32: store(0, 2, -1)", "ROW 0", 1, x -> x.store(0, 2, -1));
        changes("34: film(1)", "ROW 1", 6, x -> x.film(1));
        changes("34: film(0)", "ROW 0", 6, x -> x.film(0));
    }

    private static void callsOfTheTape() {
        changes("28: feed(;)", "THE TAPE", 23, x -> x.feed(';'));
        changes("29: wipe()", "THE TAPE", 22, x -> x.wipe());
        changes("30: read()", "GOODS zz, THE TAPE, WET", 2, x -> x.read());
        changes("30: read() of a FAULT", "THE TAPE", -123, x -> x.feed(';') < 0 ? 0 : x.read());
        changes("30: read() of what is refused behind one", "GOODS zz, THE TAPE", -201, x -> {
            x.wipe();
            Desk.feed(x, "put zz 1 5 0 3 2;wet 2;take a");
            return x.read();
        });
    }

    private static void callsOfTheImage() {
        String image = "THE IMAGE, of THE IMAGE DEEP, of THE IMAGE GOODS a, of THE IMAGE GOODS bb, of THE IMAGE GOODS ccc, "
            + "of THE IMAGE GOODS d, of THE IMAGE GOODS e, of THE IMAGE SECTION 0, of THE IMAGE SECTION 2, of THE IMAGE SECTION 3, "
            + "of THE IMAGE SECTIONS, of THE IMAGE SHELL, of THE IMAGE TANK 0, of THE IMAGE TANK 1, of THE IMAGE TANK 3, of THE IMAGE WET";
        changes("35: image()", image, 5, x -> x.image());
        changes("36: undo()", "DEEP, GOODS a, GOODS bb, GOODS ccc, GOODS d, GOODS e, SECTION 0, SECTION 2, SECTION 3, SECTIONS, SHELL, "
            + "TANK 0, TANK 1, TANK 3, THE TAPE, WET", 1, x -> x.undo());
        changes("35: image() and undo()", image, 5, x -> 0 * x.image() + x.undo());
    }

    /** "hull() makes all as at first (no GOODS, no TANKS; WET 0), but ROWS, THE TAPE, THE IMAGE." */
    private static void hullMakesAllAsAtFirst() {
        BoatTrim anew = new BoatTrim();
        anew.hull(7);
        BoatTrim x = Laden.desk();
        Due.is("2: hull(7)", x.hull(7), 4);
        Map<String, String> first = Whole.of(anew);
        Map<String, String> told = Whole.of(x);
        Map<String, String> ahead = Whole.of(Laden.desk());
        for (String label : first.keySet()) {
            boolean stays = label.startsWith("ROW") || label.contains("THE IMAGE") || label.equals("THE TAPE");
            if (!stays) Due.is("2: " + label + " behind hull(7)", told.get(label), first.get(label));
        }
        for (String label : ahead.keySet()) {
            boolean stays = label.startsWith("ROW") || label.contains("THE IMAGE");
            if (stays) Due.is("2: " + label + " behind hull(7)", told.get(label), ahead.get(label));
            if (label.startsWith("GOODS")) Due.is("2: " + label + " is gone", told.containsKey(label) ? 1 : 0, 0);
        }
        Due.is("2: THE TAPE behind hull(7)", told.get("THE TAPE"), "22: 2 zzk5@0r3;");
    }
}
