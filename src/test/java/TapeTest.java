/** Promises 28 to 30: feed, wipe, read. */
public final class TapeTest {
    public static void main(String[] args) {
        feed();
        wipe();
        readDoesActs();
        readRefuses();
        faultsOfWords();
        faultsOfNames();
        faultsOfNumbers();
        faultsOfEnds();
        nothingIsDoneByAFault();
        theFullTape();
        Due.end();
    }

    private static void feed() {
        BoatTrim x = new BoatTrim();
        int[] wrong = {31, 127, 0, -1, 256 + 32, Integer.MAX_VALUE, Integer.MIN_VALUE};
        for (int letter : wrong) Due.is("28: feed(" + letter + ")", x.feed(letter), BoatTrim.BAD);
        Due.is("28: the first byte", x.feed(32), 1);
        Due.is("28: the last byte", x.feed(126), 2);
        for (int i = 3; i <= 80; i++) Due.is("28: byte " + i, x.feed('a'), i);
        Due.is("28: it is FULL", x.feed('a'), BoatTrim.FULL);
        Due.is("28: BAD ahead of FULL", x.feed(127), BoatTrim.BAD);
        Due.is("28: eighty", x.count(5), 80);
    }

    private static void wipe() {
        BoatTrim x = new BoatTrim();
        Due.is("29: empty", x.wipe(), 0);
        Desk.feed(x, "abc");
        Due.is("29: three", x.wipe(), 3);
        Due.is("29: empty again", x.wipe(), 0);
        Due.is("29: from the start", x.feed('a'), 1);
    }

    private static void readDoesActs() {
        BoatTrim x = new BoatTrim();
        Due.is("30: put", Desk.read(x, "put ab 3 50 1 -7 4"), 1);
        int[] due = {3, 50, 1, -7, 4};
        for (int what = 0; what < 5; what++) Due.is("30: goods " + what, x.goods(29, what), due[what]);
        Due.is("30: move", Desk.read(x, "move ab 3 20"), 1);
        Due.is("30: its SECTION", x.goods(29, 2), 3);
        Due.is("30: its SIDE", x.goods(29, 3), 20);
        x.tank(3, 0, 1, 99);
        Due.is("30: fill", Desk.read(x, "fill 3 099"), 1);
        Due.is("30: it HAS 99", x.fill(3, 0), 99);
        Due.is("30: wet", Desk.read(x, "wet 1"), 1);
        Due.is("30: WET", x.count(4), 1);
        Due.is("30: take", Desk.read(x, "take ab"), 1);
        Due.is("30: it is gone", x.count(1), 0);
        Due.is("30: five of them", Desk.read(x, "put zzzz 000 001 000 -00 000;wet 0;move zzzz 1 -1;fill 3 1;take zzzz"), 5);
        Due.is("30: not WET", x.count(4), 0);
        Due.is("30: it had 1", x.fill(3, 0), 1);
        Due.is("30: THE TAPE is empty", x.count(5), 0);
    }

    private static void readRefuses() {
        BoatTrim x = new BoatTrim();
        String[] refused = {"put a 5 1 0 0 0", "put a 0 0 0 0 0", "put a 0 1 4 0 0", "put a 0 1 0 21 0", "put a 0 1 0 -21 0",
            "put a 0 1 0 0 41", "take a", "move a 0 0", "move a 4 0", "fill 0 0", "fill 4 0", "wet 2", "wet 999"};
        for (String text : refused) {
            Due.is("30: " + text, Desk.read(x, text), -200);
            Due.is("30: THE TAPE is empty behind " + text, x.count(5), 0);
        }
        Due.is("30: the third", Desk.read(x, "put a 0 1 0 0 0;wet 1;put a 0 1 0 0 0;wet 0;take a"), -202);
        Due.is("30: those ahead are done", x.count(1) * 10 + x.count(4), 11);
        for (int i = 2; i <= 16; i++) x.put(i, 0, 1, 0, 0, 0);
        Due.is("30: FULL", Desk.read(x, "put z 0 1 0 0 0"), -200);
        Due.is("30: one goes, one comes", Desk.read(x, "take a;put z 0 1 0 0 0"), 2);
    }

    private static void fault(BoatTrim x, String text, int at) {
        Due.is("30: \"" + text + "\"", Desk.read(x, text), -100 - at);
        Due.is("30: THE TAPE is empty behind \"" + text + "\"", x.count(5), 0);
    }

    private static void faultsOfWords() {
        BoatTrim x = new BoatTrim();
        String[] atTheStart = {"", " ", ";", "-", "5", "puts a", "pu", "pu a", "p", "tak", "wett 1", "Put a", "load a", " wet 1", "putput", "weta",
            "pet 1", "aut a", "bake a", "fell 0 0", "wes 1", "xet 1"};
        for (String text : atTheStart) fault(x, text, 0);
        fault(x, "puT a", 0);
        fault(x, "putT a", 3);
        fault(x, "put", 3);
        fault(x, "put;", 3);
        fault(x, "put-", 3);
        fault(x, "wet1", 3);
        fault(x, "wet 1;we 1", 6);
        fault(x, "wet 1; wet 1", 6);
        fault(x, "wet 1;;wet 1", 6);
        fault(x, "wet 1;WET 1", 6);
        fault(x, "wet 1;", 6);
    }

    private static void faultsOfNames() {
        BoatTrim x = new BoatTrim();
        fault(x, "take ", 5);
        fault(x, "take  a", 5);
        fault(x, "take 1", 5);
        fault(x, "take A", 5);
        fault(x, "take ;", 5);
        fault(x, "take abcde", 9);
        fault(x, "take abcdefg", 9);
        fault(x, "take a1", 6);
        fault(x, "take a b", 6);
        fault(x, "take abB", 7);
        fault(x, "move a", 6);
        fault(x, "move a;", 6);
        fault(x, "move abcde 0 0", 9);
        fault(x, "put `", 4);
        fault(x, "put {", 4);
        Due.is("30: four letters", Desk.read(x, "take abcd"), -200);
    }

    private static void faultsOfNumbers() {
        BoatTrim x = new BoatTrim();
        fault(x, "wet ", 4);
        fault(x, "wet  1", 4);
        fault(x, "wet a", 4);
        fault(x, "wet -1", 4);
        fault(x, "wet /", 4);
        fault(x, "wet :", 4);
        fault(x, "wet 1234", 7);
        fault(x, "wet 1a", 5);
        fault(x, "wet 1-", 5);
        fault(x, "fill 1", 6);
        fault(x, "fill 1 ", 7);
        fault(x, "fill 1 -1", 7);
        fault(x, "fill -1 1", 5);
        fault(x, "move a 0 -", 10);
        fault(x, "move a 0 --1", 10);
        fault(x, "move a 0 - 1", 10);
        fault(x, "move a 0 +1", 9);
        fault(x, "move a 0 -1234", 13);
        fault(x, "move a 0 1-", 10);
        fault(x, "put a 0 1 0 0 -0", 14);
        fault(x, "put a 0 1 -0 0 0", 10);
        fault(x, "put a -0", 6);
        fault(x, "put a 0 1 0 -0", 14);
        fault(x, "put a 0 1 0 -;", 13);
    }

    private static void faultsOfEnds() {
        BoatTrim x = new BoatTrim();
        fault(x, "wet 1 ", 5);
        fault(x, "wet 1 1", 5);
        fault(x, "take a ;", 6);
        fault(x, "move a 0 0 0", 10);
        fault(x, "put a 0 1 0 0 0 0", 15);
        fault(x, "wet 1.", 5);
        fault(x, "wet 1:wet 1", 5);
    }

    private static void nothingIsDoneByAFault() {
        BoatTrim x = new BoatTrim();
        fault(x, "wet 1;take a;wet", 16);
        Due.is("30: nothing was done", x.count(4), 0);
        fault(x, "put a 0 1 0 0 0;wet 1,", 21);
        Due.is("30: none came", x.count(1), 0);
        Due.is("30: an empty TAPE", x.read(), -100);
    }

    private static void theFullTape() {
        BoatTrim x = new BoatTrim();
        StringBuilder text = new StringBuilder("wet 0");
        while (text.length() < 77) text.append(";wet 1");
        Due.is("30: its length", text.length(), 77);
        Due.is("30: thirteen ACTS", Desk.read(x, text.toString()), 13);
        text.setLength(74 - 3);
        text.append(";take abc");
        Due.is("30: eighty bytes", text.length(), 80);
        Due.is("30: the last is refused", Desk.read(x, text.toString()), -212);
        text.setCharAt(79, ';');
        Due.is("30: it ends too early at 80", Desk.read(x, text.toString()), -180);
    }
}
