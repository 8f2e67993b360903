import java.io.IOException;
import java.lang.reflect.Constructor;
import java.lang.reflect.Field;
import java.lang.reflect.Method;
import java.lang.reflect.Modifier;
import java.nio.file.Files;
import java.nio.file.Path;
import java.util.Arrays;
import java.util.TreeSet;

/** The public face of the document, and the rules of LANGUAGE.md that can be seen from class and text. */
public final class FaceTest {
    private static final Path SOURCE = Path.of("src/main/java/BoatTrim.java");
    private static final String[] METHODS = {"hull 1", "section 3", "set 2", "put 6", "take 1", "move 3", "goods 2", "taken 2",
        "tank 4", "fill 2", "told 1", "water 2", "line 0", "trim 1", "off 1", "heel 1", "steady 0", "grounded 1", "lighten 1",
        "more 1", "order 2", "next 1", "turn 0", "change 1", "fits 4", "say 1", "feed 1", "wipe 0", "read 0", "row 2", "store 3",
        "get 2", "film 1", "image 0", "undo 0", "count 1"};
    private static final String[] BANNED = {"throw", "throws", "try", "catch", "finally", "synchronized", "assert", "volatile",
        "equals", "hashCode", "toString", "System.out", "System.nano", "System.current", "Random", "Thread", "->", "::", "package",
        "protected", "static {", "Exact(", "@Override", "var ", "double", "float"};

    public static void main(String[] args) throws IOException {
        constants();
        methods();
        members();
        text();
        Due.end();
    }

    private static void constants() {
        Due.is("BAD", BoatTrim.BAD, -1);
        Due.is("NOT", BoatTrim.NOT, -2);
        Due.is("FULL", BoatTrim.FULL, -3);
        Due.is("STATE", BoatTrim.STATE, -5);
        Due.is("VOID", BoatTrim.VOID, Integer.MIN_VALUE);
    }

    private static void methods() {
        TreeSet<String> due = new TreeSet<>(Arrays.asList(METHODS));
        TreeSet<String> got = new TreeSet<>();
        for (Method m : BoatTrim.class.getDeclaredMethods()) {
            if (Modifier.isPrivate(m.getModifiers())) continue;
            got.add(m.getName() + " " + m.getParameterCount());
            boolean isInt = m.getReturnType() == int.class;
            for (Class<?> parameter : m.getParameterTypes()) isInt = isInt && parameter == int.class;
            Due.is(m + " is public, of ints", Modifier.isPublic(m.getModifiers()) && !Modifier.isStatic(m.getModifiers()) && isInt ? 1 : 0, 1);
        }
        Due.is("the methods", got.toString(), due.toString());
        TreeSet<String> fields = new TreeSet<>();
        for (Field f : BoatTrim.class.getDeclaredFields()) {
            if (!Modifier.isPrivate(f.getModifiers())) fields.add(f.getName());
        }
        Due.is("the constants", fields.toString(), "[BAD, FULL, NOT, STATE, VOID]");
        Constructor<?>[] constructors = BoatTrim.class.getDeclaredConstructors();
        Due.is("constructors", constructors.length, 1);
        Due.is("of no arguments", constructors[0].getParameterCount(), 0);
        Due.is("a final class", Modifier.isFinal(BoatTrim.class.getModifiers()) ? 1 : 0, 1);
    }

    private static void members() {
        TreeSet<String> face = new TreeSet<>();
        for (String method : METHODS) face.add(method.split(" ")[0]);
        Class<?>[] inside = BoatTrim.class.getDeclaredClasses();
        Due.is("some twelve classes", inside.length < 12 ? 1 : 0, 1);
        for (Class<?> c : inside) {
            Due.is(c + " is static", Modifier.isStatic(c.getModifiers()) ? 1 : 0, 1);
            Due.is(c + " is not public", Modifier.isPublic(c.getModifiers()) ? 1 : 0, 0);
            for (Method m : c.getDeclaredMethods()) Due.is(m + " bears a name of the face", face.contains(m.getName()) ? 1 : 0, 0);
            staticFieldsAreConstants(c);
        }
        staticFieldsAreConstants(BoatTrim.class);
        for (Method m : BoatTrim.class.getDeclaredMethods()) {
            boolean isHidden = Modifier.isPrivate(m.getModifiers());
            Due.is(m + " bears a name of the face", isHidden && face.contains(m.getName()) ? 1 : 0, 0);
            Due.is(m + " takes seven at most", m.getParameterCount() <= 7 ? 1 : 0, 1);
        }
    }

    private static void staticFieldsAreConstants(Class<?> c) {
        int own = 0;
        for (Field f : c.getDeclaredFields()) {
            if (Modifier.isStatic(f.getModifiers())) Due.is(f + " is final", Modifier.isFinal(f.getModifiers()) ? 1 : 0, 1);
            else own++;
        }
        Due.is(c + " has some twenty fields", own <= 20 ? 1 : 0, 1);
    }

    private static void text() throws IOException {
        int start = 0;
        int number = 0;
        for (String line : Files.readAllLines(SOURCE)) {
            number++;
            String code = line.replaceAll("//.*|/?\\*.*", "");
            for (String word : BANNED) Due.is(word.trim() + " in line " + number, holds(code, word) ? 1 : 0, 0);
            for (int i = 0; i < line.length(); i++) Due.is("a sign in line " + number, line.charAt(i) < 128 ? 1 : 0, 1);
            if (code.startsWith("import")) Due.is("line " + number, code, "import java.util.Arrays;");
            if (code.matches(" {4,8}[a-zA-Z].*\\) \\{")) start = number;
            if (code.matches(" {4,8}}")) Due.is("some sixty lines at line " + number, number - start <= 60 ? 1 : 0, 1);
        }
    }

    private static boolean holds(String code, String word) {
        if (!word.matches("[a-zA-Z]+")) return code.contains(word);
        return Arrays.asList(code.split("[^a-zA-Z]+")).contains(word);
    }
}
