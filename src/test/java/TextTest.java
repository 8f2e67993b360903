/** Part 3 of the terms, of THE TAPE: its bytes, each ACT, each place where a TEXT can go wrong, what is refused. */
public final class TextTest {
    private static final int FULL = BoatTrim.FULL;
    private static final String LETTERS = "abcdefghijklmnopqrstuvwxyz", FIGURES = "0123456789";

    public static void main(String[] args) {
        bytes();
        fullAndEmpty();
        eachAct();
        numbers();
        sides();
        eachCutOffText();
        eachWrongByte();
        eachByteBehind();
        words();
        fifthLetters();
        fourthFigures();
        ends();
        refusedActs();
        refusedAsTheCall();
        faultAheadOfActs();
        emptyBehindRead();
        Due.end();
    }

    private static BoatTrim desk() {
        BoatTrim x = new BoatTrim();
        x.tank(0, 1, 2, 99);
        x.put(Desk.name("abcd"), 0, 1, 0, 0, 0);
        return x;
    }

    /** Each TEXT comes upon a desk of its own. */
    private static int read(String text) {
        return Desk.read(desk(), text);
    }

    private static void fault(String text, int at) {
        Due.is("30: \"" + text + "\"", read(text), -100 - at);
        Due.is("30: \"wet 1;" + text + "\"", read("wet 1;" + text), -106 - at);
    }

    private static void done(String text, int acts) {
        Due.is("30: \"" + text + "\"", read(text), acts);
        Due.is("30: \"wet 1;" + text + "\"", read("wet 1;" + text), acts + 1);
    }

    /** "THE TAPE holds 0 .. 80 bytes 32 .. 126." */
    private static void bytes() {
        for (int letter = -2; letter <= 260; letter++) {
            boolean isByte = letter >= 32 && letter <= 126;
            Due.is("28: feed(" + letter + ")", new BoatTrim().feed(letter), isByte ? 1 : BoatTrim.BAD);
        }
    }

    private static void fullAndEmpty() {
        BoatTrim x = new BoatTrim();
        Due.is("37: empty at first", x.count(5), 0);
        Due.is("29: wipe() of none", x.wipe(), 0);
        for (int again = 0; again < 2; again++) {
            for (int i = 1; i <= 80; i++) Due.is("28: byte " + i, x.feed(' '), i);
            Due.is("28: it has 80", x.feed(' '), FULL);
            Due.is("28: it has 80 still", x.feed(126), FULL);
            Due.is("37: eighty", x.count(5), 80);
            if (again == 0) Due.is("29: wipe() of 80", x.wipe(), 80);
        }
        Due.is("30: eighty blanks", x.read(), -100);
        Due.is("28: empty behind it", x.feed('w'), 1);
        Due.is("29: one", x.wipe(), 1);
    }

    /** "put NAME KIND WEIGHT SECTION SIDE UP; move NAME SECTION SIDE; take NAME; fill TANK HAS; wet N": as the calls. */
    private static void eachAct() {
        BoatTrim x = desk();
        Due.is("30: put", Desk.read(x, "put b 3 999 3 -20 40"), 1);
        int[] due = {3, 999, 3, -20, 40};
        for (int what = 0; what < 5; what++) Due.is("30: put, goods " + what, x.goods(2, what), due[what]);
        Due.is("30: put, the least", Desk.read(x, "put c 0 1 0 20 0"), 1);
        Due.is("30: move", Desk.read(x, "move b 0 20"), 1);
        Due.is("30: move, where to", x.goods(2, 2) * 100 + x.goods(2, 3), 20);
        Due.is("30: move, to the left", Desk.read(x, "move b 2 -1"), 1);
        Due.is("30: move, to the left, where to", x.goods(2, 2) * 100 + x.goods(2, 3), 199);
        Due.is("30: move, KIND, WEIGHT and UP stay", x.goods(2, 0) * 1000 + x.goods(2, 1) + x.goods(2, 4), 4039);
        Due.is("30: fill", Desk.read(x, "fill 0 99"), 1);
        Due.is("30: fill, it HAS", x.fill(0, 0), 99);
        Due.is("30: wet 1", Desk.read(x, "wet 1"), 1);
        Due.is("30: wet 1, WET", x.count(4), 1);
        Due.is("30: wet 0", Desk.read(x, "wet 0"), 1);
        Due.is("30: wet 0, WET", x.count(4), 0);
        Due.is("30: take", Desk.read(x, "take b"), 1);
        Due.is("30: take, it is gone", x.take(2), BoatTrim.NOT);
        Due.is("30: all in one", Desk.read(x, "put z 4 7 1 5 6;move z 2 -3;fill 0 7;wet 1;take abcd;take c"), 6);
        Due.is("30: all in one, behind it", Desk.report(x), "zf7@2l3;");
        Due.is("30: all in one, ALL WEIGHT", x.told(0), 100 + 7 + 1 + 3 + 7);
    }

    /** "numbers of 1 to 3 figures": with ciphers ahead, too. */
    private static void numbers() {
        String[] ones = {"1", "01", "001"};
        for (String one : ones) {
            BoatTrim x = new BoatTrim();
            Due.is("30: " + one, Desk.read(x, "put a " + one + " " + one + " " + one + " " + one + " " + one), 1);
            for (int what = 0; what < 5; what++) Due.is("30: " + one + ", goods " + what, x.goods(1, what), 1);
            Due.is("30: wet " + one, Desk.read(x, "wet " + one), 1);
            Due.is("30: " + one + ", WET", x.count(4), 1);
        }
        BoatTrim x = new BoatTrim();
        x.tank(0, 0, 1, 999);
        int[] numbers = {0, 7, 9, 10, 99, 100, 123, 987, 999};
        for (int number : numbers) {
            Due.is("30: fill 0 " + number, Desk.read(x, "fill 0 " + number), 1);
            Due.is("30: it HAS", x.fill(0, 0), number);
        }
    }

    /** "SIDE with - ahead of it, or none" */
    private static void sides() {
        BoatTrim x = desk();
        String[] sides = {"0", "-0", "00", "-000", "7", "-7", "07", "-007", "20", "-20", "020", "-020"};
        int[] due = {0, 0, 0, 0, 7, -7, 7, -7, 20, -20, 20, -20};
        for (int i = 0; i < sides.length; i++) {
            Due.is("30: move to " + sides[i], Desk.read(x, "move abcd 1 " + sides[i]), 1);
            Due.is("30: SIDE", x.goods(Desk.name("abcd"), 3), due[i]);
        }
        String[] beside = {"21", "-21", "999", "-999", "021", "-021"};
        for (String side : beside) Due.is("30: move to " + side, Desk.read(x, "move abcd 1 " + side), -200);
        Due.is("30: the last that was", x.goods(Desk.name("abcd"), 3), -20);
    }

    /** "or the length, if it ends too early": each TEXT of one ACT, cut off at each place. */
    private static void eachCutOffText() {
        String[] texts = {"put xyz 3 7 2 -6 5", "move abcd 2 -6", "take abcd", "fill 0 7", "wet 1"};
        // Cut off there, it is a TEXT as well: behind a letter or a figure of what ends the ACT.
        int[] whole = {17, 13, 5, 7, 4};
        for (int i = 0; i < texts.length; i++) {
            int word = texts[i].indexOf(' ');
            for (int end = 0; end < texts[i].length(); end++) {
                String text = texts[i].substring(0, end);
                // Of a word that is none of these it is where it begins.
                if (end < word) fault(text, 0);
                else if (end <= whole[i]) fault(text, end);
                else fault(text + ";", end + 1);
            }
            done(texts[i], 1);
            fault(texts[i] + ";", texts[i].length() + 1);
        }
    }

    /** "FAULT: the first byte with which no such text goes on": a sign that stands nowhere, in each place. */
    private static void eachWrongByte() {
        String[] texts = {"put xyz 3 7 2 -6 5;wet 1", "move abcd 2 -6;wet 1", "take abcd;wet 1", "fill 0 7;wet 1", "wet 1;wet 1"};
        String signs = "!~A@[`{/:_.,\"+";
        for (String text : texts) {
            int word = text.indexOf(' ');
            int next = text.indexOf(';') + 1;
            for (int at = 0; at <= text.length(); at++) {
                // In the midst of a word it cuts the word off, and the word is then none of these.
                int due = at < word ? 0 : at >= next && at < next + 3 ? next : at;
                String rest = at < text.length() ? text.substring(at + 1) : "";
                for (int k = 0; k < signs.length(); k++) fault(text.substring(0, at) + signs.charAt(k) + rest, due);
            }
        }
    }

    /** Behind each start all bytes are tried: those with which it goes on are told. */
    private static void eachByteBehind() {
        onlyGoesOn("put", " ", 0, LETTERS);
        onlyGoesOn("put ", LETTERS, 4, "");
        onlyGoesOn("put a", LETTERS + " ", 5, "");
        onlyGoesOn("put abcd", " ", 8, "");
        onlyGoesOn("put a ", FIGURES, 6, "");
        onlyGoesOn("put a 0", FIGURES + " ", 7, "");
        onlyGoesOn("put a 012", " ", 9, "");
        onlyGoesOn("put a 0 1 0 ", FIGURES + "-", 12, "");
        onlyGoesOn("put a 0 1 0 -", FIGURES, 13, "");
        onlyGoesOn("put a 0 1 0 -1", FIGURES + " ", 14, "");
        onlyGoesOn("put a 0 1 0 1 ", FIGURES, 14, "");
        onlyGoesOn("put b 0 1 0 1 000", ";", 17, "");
        onlyGoesOn("move", " ", 0, LETTERS);
        onlyGoesOn("move abcd ", FIGURES, 10, "");
        onlyGoesOn("move abcd 0 ", FIGURES + "-", 12, "");
        onlyGoesOn("move abcd 0 -", FIGURES, 13, "");
        onlyGoesOn("move abcd 0 -0", FIGURES + ";", 14, "");
        onlyGoesOn("take", " ", 0, LETTERS);
        onlyGoesOn("take ", LETTERS, 5, "");
        onlyGoesOn("take abc", LETTERS + ";", 8, "");
        onlyGoesOn("take abcd", ";", 9, "");
        onlyGoesOn("fill", " ", 0, LETTERS);
        onlyGoesOn("fill ", FIGURES, 5, "");
        onlyGoesOn("fill 0", FIGURES + " ", 6, "");
        onlyGoesOn("fill 0 ", FIGURES, 7, "");
        onlyGoesOn("fill 0 00", FIGURES + ";", 9, "");
        onlyGoesOn("wet", " ", 0, LETTERS);
        onlyGoesOn("wet ", FIGURES, 4, "");
        onlyGoesOn("wet 00", FIGURES + ";", 6, "");
        onlyGoesOn("wet 000", ";", 7, "");
    }

    /** By a letter behind a word the word is another one: its FAULT is told then. */
    private static void onlyGoesOn(String start, String with, int atWord, String ofWord) {
        for (char sign = 32; sign <= 126; sign++) {
            String text = start + sign;
            int answer = read(text);
            if (with.indexOf(sign) >= 0) {
                Due.is("30: \"" + text + "\" goes on", answer >= 0 || answer == -200 || answer == -100 - text.length() ? 1 : 0, 1);
            } else {
                Due.is("30: \"" + text + "\"", answer, ofWord.indexOf(sign) >= 0 ? -100 - atWord : -100 - start.length());
            }
        }
    }

    /** "of a word that is none of these where it begins", "A word of a TEXT is as many letters as stand there" */
    private static void words() {
        String[] none = {"", "p", "pu", "t", "tak", "m", "mov", "f", "fil", "w", "we", "puts", "takes", "moved", "filled", "wets", "wett", "pot",
            "tale", "love", "fell", "set", "hull", "putput", "puta", "takemove", "a", "z", "zzzzzzzzzzzz"};
        for (String word : none) {
            fault(word, 0);
            fault(word + " ", 0);
            fault(word + " a", 0);
            fault(word + ";", 0);
            fault(word + "1", 0);
            fault(word + "-", 0);
        }
        String[] words = {"put", "move", "take", "fill", "wet"};
        for (String word : words) {
            fault(word, word.length());
            fault(word + ";", word.length());
            fault(word + "1", word.length());
            fault(word + "A", word.length());
            fault(word + " ", word.length() + 1);
            fault(word + "  ", word.length() + 1);
            fault(" " + word, 0);
            fault(word.toUpperCase(), 0);
            fault(word.substring(0, 1).toUpperCase() + word.substring(1), 0);
        }
    }

    /** "a NAME likewise (of a fifth letter that place)" */
    private static void fifthLetters() {
        String[] names = {"abcde", "aaaaa", "zzzzz", "abcdef", "abcdefghijklmnop"};
        for (String name : names) {
            fault("take " + name, 9);
            fault("put " + name, 8);
            fault("move " + name + " 0 0", 9);
        }
        fault("take abcd1", 9);
        fault("take abcd ", 9);
        done("take abcd", 1);
        fault("take abc1", 8);
        fault("take 1abc", 5);
        fault("take -abc", 5);
    }

    /** "a fourth figure, too" */
    private static void fourthFigures() {
        fault("wet 0000", 7);
        fault("wet 0001", 7);
        fault("wet 12345", 7);
        fault("fill 0000", 8);
        fault("fill 0 1234", 10);
        fault("fill 000 1234", 12);
        fault("put a 1234", 9);
        fault("put a 0 1234", 11);
        fault("put a 0 1 1234", 13);
        fault("put a 0 1 0 1234", 15);
        fault("put a 0 1 0 -1234", 16);
        fault("put a 0 1 0 0 1234", 17);
        fault("move a 1234", 10);
        fault("move a 0 1234", 12);
        fault("move a 0 -1234", 13);
        fault("move a 0 --1", 10);
        fault("move a 0 -", 10);
        fault("move a 0 - ", 10);
        fault("move a -1 0", 7);
        fault("fill -0 0", 5);
        fault("fill 0 -0", 7);
        fault("wet -0", 4);
        fault("put a -0 1 0 0 0", 6);
        fault("put a 0 -1 0 0 0", 8);
        fault("put a 0 1 -0 0 0", 10);
        fault("put a 0 1 0 0 -0", 14);
    }

    /** "A TEXT may end behind each number or NAME that ends an ACT.", "parted by ;" */
    private static void ends() {
        String[] whole = {"take abcd", "wet 0", "wet 00", "wet 000", "fill 0 1", "fill 0 01", "fill 0 001", "move abcd 0 0", "move abcd 0 -01",
            "put a 0 1 0 0 0", "put abc 0 1 0 0 00", "put b 0 1 0 0 040"};
        for (String text : whole) {
            done(text, 1);
            fault(text + ";", text.length() + 1);
            fault(text + ";;", text.length() + 1);
            fault(text + "; ", text.length() + 1);
            fault(text + " ", text.length());
            fault(text + " ;", text.length());
            fault(text + ",", text.length());
            done(text + ";wet 0", 2);
        }
        fault(";", 0);
        fault(";wet 0", 0);
        fault("wet 0;;wet 0", 6);
        fault("wet 0; wet 0", 6);
        fault("wet 0 wet 0", 5);
        fault("wet 0 0", 5);
        fault("move abcd 0 0 0", 13);
        fault("put a 0 1 0 0 0 0", 15);
        fault("fill 0 1 1", 8);
        fault("take abcd abcd", 9);
    }

    /** "An ACT refused ..: -200 less the number of ACTS ahead of it: those ahead are done, those behind are not." */
    private static void refusedActs() {
        for (int ahead = 0; ahead <= 12; ahead++) {
            BoatTrim x = new BoatTrim();
            x.tank(0, 0, 1, 99);
            StringBuilder text = new StringBuilder();
            for (int i = 1; i <= ahead; i++) text.append(i % 2 == 0 ? "wet 0;" : "wet 1;");
            text.append("wet 2");
            if (ahead < 11) text.append(";fill 0 9");
            Due.is("30: \"" + text + "\"", Desk.read(x, text.toString()), -200 - ahead);
            Due.is("30: those ahead are done", x.count(4), ahead % 2);
            Due.is("30: those behind are not", x.fill(0, 0), 0);
            Due.is("30: THE TAPE is empty", x.count(5), 0);
        }
        BoatTrim x = new BoatTrim();
        Due.is("30: the last of three", Desk.read(x, "put a 0 1 0 0 0;put b 0 1 0 0 0;put a 0 9 0 0 0"), -202);
        Due.is("30: two came", Desk.report(x), "ac1@0;bc1@0;");
    }

    private static void refusedAsTheCall() {
        String[] refused = {"put a 5 1 0 0 0", "put a 999 1 0 0 0", "put a 0 0 0 0 0", "put a 0 1 4 0 0", "put a 0 1 0 21 0", "put a 0 1 0 -21 0",
            "put a 0 1 0 0 41", "put abcd 0 1 0 0 0", "move a 0 0", "move abcd 4 0", "move abcd 0 21", "move abcd 0 -21", "take a", "fill 4 0",
            "fill 1 0", "fill 0 100", "fill 0 999", "wet 2", "wet 999"};
        for (String text : refused) {
            BoatTrim x = desk();
            Due.is("30: \"" + text + "\"", Desk.read(x, text), -200);
            Due.is("30: nothing is done by it", Desk.report(x), "abcdc1@0;");
            Due.is("30: nor by what is behind it", Desk.read(x, text + ";take abcd"), -200);
            Due.is("30: it stays", x.count(1), 1);
            Due.is("30: \"wet 1;" + text + "\"", Desk.read(x, "wet 1;" + text), -201);
            Due.is("30: WET", x.count(4), 1);
        }
    }

    /** "The whole text is looked at for a FAULT ahead of the first ACT.", "read(): FAULT, then -200 less the ACTS" */
    private static void faultAheadOfActs() {
        String[] texts = {"wet 1;take abcd;", "wet 1;take abcd;we", "wet 1;take abcd!", "wet 1;take abcde"};
        int[] due = {16, 16, 15, 15};
        for (int i = 0; i < texts.length; i++) {
            BoatTrim x = desk();
            Due.is("30: \"" + texts[i] + "\"", Desk.read(x, texts[i]), -100 - due[i]);
            Due.is("30: not WET", x.count(4), 0);
            Due.is("30: it stays", x.count(1), 1);
        }
        Due.is("30: a FAULT behind what would be refused", read("take a;wet"), -110);
        Due.is("30: a FAULT behind a number out of its range", read("wet 2;wet 1234"), -113);
        Due.is("30: a number out of its range is no FAULT", read("wet 999"), -200);
        StringBuilder longest = new StringBuilder("wet 000");
        while (longest.length() < 79) longest.append(";wet 1");
        Due.is("30: its length", longest.length(), 79);
        Due.is("30: thirteen ACTS", read(longest.toString()), 13);
        Due.is("30: eighty bytes, a FAULT at the last", read(longest + "!"), -179);
        Due.is("30: eighty bytes, a ; at the last", read(longest + ";"), -180);
        Due.is("30: eighty bytes, a figure at the last", read(longest + "0"), -212);
        Due.is("30: eighty bytes, a cipher ahead", read(longest.substring(0, 78) + "00"), 13);
    }

    /** "THE TAPE is empty behind each call that reads it, by a FAULT and by all that is refused behind its text, too." */
    private static void emptyBehindRead() {
        String[] texts = {"", "wet 1", "wet 1;", "!", "wet 2", "wet 0;wet 2", "take nobody"};
        int[] due = {-100, 1, -106, -100, -200, -201, -109};
        BoatTrim x = desk();
        for (int i = 0; i < texts.length; i++) {
            Desk.feed(x, texts[i]);
            Due.is("37: bytes of \"" + texts[i] + "\"", x.count(5), texts[i].length());
            Due.is("30: \"" + texts[i] + "\"", x.read(), due[i]);
            Due.is("37: no bytes behind it", x.count(5), 0);
            Due.is("30: an empty TAPE", x.read(), -100);
        }
        Due.is("29: wipe() of it", x.wipe(), 0);
        Due.is("28: from its start", x.feed('w'), 1);
    }
}
