import java.util.Map;
import java.util.Objects;
import java.util.TreeMap;
import java.util.TreeSet;

/** All that a desk holds, as it can be asked; asking uses up the desk (some 400 of its 512 calls). */
final class Whole {
    private final BoatTrim x;
    private final Map<String, String> told = new TreeMap<>();

    private Whole(BoatTrim x) {
        this.x = x;
    }

    static Map<String, String> of(BoatTrim x) {
        Whole whole = new Whole(x);
        whole.tellHullAndGoods("");
        whole.tellRows();
        whole.tellTape();
        whole.tellTanks("");
        whole.tellImage();
        return whole.told;
    }

    /** What isn't alike, in the order of the labels; "" if all is. */
    static String differences(Map<String, String> one, Map<String, String> other) {
        TreeSet<String> labels = new TreeSet<>(one.keySet());
        labels.addAll(other.keySet());
        labels.removeIf(label -> Objects.equals(one.get(label), other.get(label)));
        return String.join(", ", labels);
    }

    private void tellHullAndGoods(String where) {
        told.put(where + "SECTIONS", "" + x.count(0));
        told.put(where + "DEEP", "" + x.count(2));
        told.put(where + "SHELL", "" + x.count(3));
        told.put(where + "WET", "" + x.count(4));
        for (int i = 0; i < x.count(0); i++) told.put(where + "SECTION " + i, "" + section(i));
        for (int name = x.next(0); name > 0; name = x.next(name)) told.put(where + "GOODS " + Desk.letters(name), goods(name));
    }

    /** WIDE and RISE are told by the call that changes them: so they are put back. */
    private int section(int section) {
        int was = x.section(section, 10, 0);
        x.section(section, was / 100, was % 100);
        return was;
    }

    private String goods(int name) {
        StringBuilder all = new StringBuilder();
        for (int what = 0; what < 5; what++) all.append(x.goods(name, what)).append(' ');
        return all.toString();
    }

    /** TANKS come last, for GOODS must go: RIGHTING tells a BREADTH only where nothing else weighs. */
    private void tellTanks(String where) {
        while (x.next(0) > 0) x.take(x.next(0));
        x.set(0, 60);
        x.set(1, 1);
        x.section(0, 40, 0);
        int[] had = new int[4];
        for (int tank = 0; tank < 4; tank++) had[tank] = x.fill(tank, 0);
        for (int tank = 0; tank < 4; tank++) told.put(where + "TANK " + tank, had[tank] == BoatTrim.STATE ? "none" : had[tank] + tank(tank));
    }

    /** What an empty one HOLDS, and what 1 in it does to ALONG and to RIGHTING. */
    private String tank(int tank) {
        int holds = 0;
        for (int more = 512; more > 0; more /= 2) {
            if (x.fill(tank, holds + more) != BoatTrim.STATE) holds += more;
        }
        x.fill(tank, 0);
        int along = x.told(1);
        int righting = x.told(4);
        x.fill(tank, 1);
        String does = " " + (x.told(1) - along) + " " + (x.told(4) - righting);
        x.fill(tank, 0);
        return " of " + holds + does;
    }

    private void tellRows() {
        for (int row = 0; row < 3; row++) {
            told.put("ROW " + row, x.store(row, -1, 0) + ": " + Desk.row(x, row));
        }
    }

    /** Its bytes are told by what they do: so a desk that is asked has a TEXT on it. */
    private void tellTape() {
        int bytes = x.count(5);
        told.put("THE TAPE", bytes + ": " + x.read() + " " + Desk.report(x));
    }

    private void tellImage() {
        int undone = x.undo();
        told.put("THE IMAGE", "" + undone);
        if (undone < 0) return;
        tellHullAndGoods("of THE IMAGE ");
        tellTanks("of THE IMAGE ");
    }
}
