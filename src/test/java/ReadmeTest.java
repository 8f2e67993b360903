import java.io.IOException;
import java.nio.file.Files;
import java.nio.file.Path;
import java.util.List;
import java.util.regex.Matcher;
import java.util.regex.Pattern;

/** README.md: its example answers as it says, and each call of the face stands in a table with what it is refused by. */
public final class ReadmeTest {
    private static final Pattern CALL = Pattern.compile(" {4}public (int )?(\\w+)\\((.*)\\) \\{");

    private final List<String> readme = Files.readAllLines(Path.of("README.md"));

    private ReadmeTest() throws IOException {
    }

    public static void main(String[] args) throws IOException {
        ReadmeTest test = new ReadmeTest();
        test.example();
        test.face();
        test.refusals();
        Due.end();
    }

    private boolean holds(String start, String then) {
        for (String line : readme) {
            if (line.startsWith(start) && line.contains(then)) return true;
        }
        return false;
    }

    private void told(String code, int answer) {
        Due.is("README.md: " + code + " with " + answer, holds(code + ";", " // " + answer + ": ") ? 1 : 0, 1);
    }

    private void example() {
        BoatTrim desk = new BoatTrim();
        told("desk.line()", desk.line());
        told("desk.put(1, 0, 10, 3, -5, 2)", desk.put(1, 0, 10, 3, -5, 2));
        told("desk.put(28, 1, 20, 1, 8, 0)", desk.put(28, 1, 20, 1, 8, 0));
        told("desk.put(1, 0, 10, 3, -5, 2)", desk.put(1, 0, 10, 3, -5, 2));
        Due.is("README.md: LINE behind it", holds("desk.line();", "// " + desk.line()) ? 1 : 0, 1);
        told("desk.trim(0)", desk.trim(0));
        told("desk.heel(0)", desk.heel(0));
        told("desk.more(320)", desk.more(320));
        String text = "move a 1 5;wet 1";
        Due.is("README.md: the text", holds("for (char c : \"" + text + "\"", "desk.feed(c);") ? 1 : 0, 1);
        Desk.feed(desk, text);
        told("desk.read()", desk.read());
        told("desk.say(-1)", desk.say(-1));
        Due.is("README.md: the report", holds("desk.say(-1);", "\"" + Desk.report(desk) + "\"") ? 1 : 0, 1);
        told("desk.film(0)", desk.film(0));
        told("desk.get(0, 1)", desk.get(0, 1));
    }

    /** Each public call stands in a table, its arguments named as in the class. */
    private void face() throws IOException {
        int calls = 0;
        for (String line : Files.readAllLines(Path.of("src/main/java/BoatTrim.java"))) {
            Matcher m = CALL.matcher(line);
            if (!m.matches()) continue;
            calls++;
            String call = m.group(2) + "(" + m.group(3).replace("int ", "") + ")";
            Due.is("README.md: " + call, holds("| `" + call + "` | ", " | ") ? 1 : 0, 1);
        }
        Due.is("README.md: the constructor and 36 calls", calls, 37);
    }

    private void refusals() {
        refused("BAD", BoatTrim.BAD);
        refused("NOT", BoatTrim.NOT);
        refused("FULL", BoatTrim.FULL);
        refused("STATE", BoatTrim.STATE);
        refused("VOID", BoatTrim.VOID);
        BoatTrim x = new BoatTrim();
        int missing = x.store(0, 0, 0);
        int below = x.row(0, -2);
        x.row(0, 0);
        int[] others = {missing, x.store(0, 0, 0), below};
        for (int answer : others) Due.is("README.md: " + answer, holds("| " + answer + " |", "") ? 1 : 0, 1);
    }

    private void refused(String name, int answer) {
        Due.is("README.md: " + name, holds("| " + answer + " | `" + name + "` |", "") ? 1 : 0, 1);
    }
}
