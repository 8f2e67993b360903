/** What tests say often to a BoatTrim. */
final class Desk {
    private Desk() {
    }

    static int name(String letters) {
        int number = 0;
        for (int i = 0; i < letters.length(); i++) number = number * 27 + letters.charAt(i) - 'a' + 1;
        return number;
    }

    static int put(BoatTrim x, String name, int kind, int weight, int section, int side, int up) {
        return x.put(name(name), kind, weight, section, side, up);
    }

    static void feed(BoatTrim x, String text) {
        for (int i = 0; i < text.length(); i++) x.feed(text.charAt(i));
    }

    static int read(BoatTrim x, String text) {
        x.wipe();
        feed(x, text);
        return x.read();
    }

    static String report(BoatTrim x) {
        StringBuilder signs = new StringBuilder();
        int length = x.say(-1);
        for (int i = 0; i < length; i++) signs.append((char) x.say(i));
        return signs.toString();
    }

    /** ORDER by: the NAMES, each as letters, with blanks between. */
    static String order(BoatTrim x, int by) {
        StringBuilder names = new StringBuilder();
        for (int k = 0; k < x.count(1); k++) {
            if (k > 0) names.append(' ');
            names.append(letters(x.order(by, k)));
        }
        return names.toString();
    }

    static String letters(int name) {
        StringBuilder letters = new StringBuilder();
        for (int rest = name; rest > 0; rest /= 27) letters.append((char) ('a' - 1 + rest % 27));
        return letters.reverse().toString();
    }

    static String row(BoatTrim x, int row) {
        StringBuilder ints = new StringBuilder();
        for (int i = 0; x.get(row, i) != BoatTrim.VOID; i++) {
            if (i > 0) ints.append(' ');
            ints.append(x.get(row, i));
        }
        return ints.toString();
    }
}
