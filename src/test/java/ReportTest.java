/** Promise 27: say. */
public final class ReportTest {
    public static void main(String[] args) {
        BoatTrim x = new BoatTrim();
        Due.is("27: nothing aboard", x.say(-1), 0);
        Due.is("27: no sign", x.say(0), BoatTrim.NOT);
        Due.is("27: say(-2)", x.say(-2), BoatTrim.BAD);
        Due.is("27: say(least)", x.say(Integer.MIN_VALUE), BoatTrim.BAD);
        Desk.put(x, "zzzz", 4, 999, 3, -20, 40);
        Desk.put(x, "b", 1, 10, 0, 0, 0);
        Desk.put(x, "aya", 3, 100, 2, 9, 7);
        Desk.put(x, "ab", 2, 7, 1, 10, 7);
        Desk.put(x, "a", 0, 205, 1, -1, 0);
        String due = "ac205@1l1;bk10@0;abw7@1r10;ayag100@2r9;zzzzf999@3l20;";
        Due.is("27: REPORT", Desk.report(x), due);
        Due.is("27: its length", x.say(-1), due.length());
        Due.is("27: behind it", x.say(due.length()), BoatTrim.NOT);
        Due.is("27: say(most)", x.say(Integer.MAX_VALUE), BoatTrim.NOT);
        x.set(2, 1);
        Due.is("27: WEIGHT, not what it WEIGHS", Desk.report(x), due);
        x.take(Desk.name("b"));
        Due.is("27: without one", Desk.report(x), due.replace("bk10@0;", ""));
        theLongest();
        Due.end();
    }

    private static void theLongest() {
        BoatTrim x = new BoatTrim();
        StringBuilder due = new StringBuilder();
        for (char last = 'a'; last < 'a' + 16; last++) {
            Desk.put(x, "zzz" + last, 3, 999, 3, -10, 0);
            due.append("zzz").append(last).append("g999@3l10;");
        }
        Due.is("27: the longest", Desk.report(x), due.toString());
        Due.is("27: its length", x.say(-1), 224);
    }
}
