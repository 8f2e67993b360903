import java.lang.reflect.Method;
import java.util.Arrays;
import java.util.Comparator;
import java.util.Random;

/** Any arguments in any state: no call may throw. */
public final class WildTest {
    private static final int RUNS = 400, CALLS = 500;
    private static final int[] EDGES = {Integer.MIN_VALUE, Integer.MIN_VALUE + 1, -10000, -200, -65, -64, -27, -22, -21, -20, -14, -13,
        -11, -2, -1, 0, 1, 2, 3, 4, 5, 9, 10, 11, 15, 16, 17, 18, 20, 21, 26, 27, 28, 29, 30, 31, 32, 39, 40, 41, 59, 60, 61, 64, 79,
        80, 81, 126, 127, 128, 255, 256, 729, 999, 1000, 1280, 3840, 3841, 9999, 10000, 19683, 531440, 531441, 1 << 16, 1 << 24,
        1 << 30, Integer.MAX_VALUE - 1, Integer.MAX_VALUE};

    public static void main(String[] args) {
        Method[] methods = BoatTrim.class.getDeclaredMethods();
        Arrays.sort(methods, Comparator.comparing(Method::getName));
        for (int seed = 0; seed < RUNS; seed++) run(methods, new Random(seed), seed);
        Due.end();
    }

    private static void run(Method[] methods, Random random, int seed) {
        BoatTrim x = new BoatTrim();
        for (int i = 0; i < CALLS; i++) {
            Method m = methods[random.nextInt(methods.length)];
            if ((m.getModifiers() & java.lang.reflect.Modifier.PUBLIC) == 0) continue;
            Object[] arguments = new Object[m.getParameterCount()];
            for (int k = 0; k < arguments.length; k++) arguments[k] = argument(random);
            String call = "run " + seed + ": " + m.getName() + Arrays.toString(arguments);
            try {
                m.invoke(x, arguments);
            } catch (ReflectiveOperationException thrown) {
                Due.is(call + " threw " + thrown.getCause(), 1, 0);
            }
        }
        Due.is("run " + seed + ": GOODS told twice", x.told(5), x.count(1));
    }

    private static int argument(Random random) {
        int dice = random.nextInt(10);
        if (dice < 6) return random.nextInt(8) - 1;
        return dice < 9 ? EDGES[random.nextInt(EDGES.length)] : random.nextInt();
    }
}
