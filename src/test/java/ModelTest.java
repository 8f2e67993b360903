import java.util.Random;

/** Random runs of calls on a BoatTrim and on a PlainBoat: each answer must be the same. */
public final class ModelTest {
    /** A call of a run takes 226 answers at most, and an object is good for 512 calls. */
    private static final int RUNS = 1500, MOST_ASKED = 280;
    private static final String[] WORDS = {"put", "move", "take", "fill", "wet"};

    private final Random random;
    private final BoatTrim x = new BoatTrim();
    private final PlainBoat plain = new PlainBoat();
    private final int names;
    private final int weights;
    private final boolean isSmall;
    private final StringBuilder calls = new StringBuilder();
    private boolean isAsDue = true;
    private int asked = 0;

    private ModelTest(long seed) {
        random = new Random(seed);
        isSmall = random.nextInt(3) > 0;
        names = isSmall ? 7 : 20;
        weights = isSmall ? 12 : random.nextBoolean() ? 60 : 999;
    }

    public static void main(String[] args) {
        for (int seed = 1; seed <= RUNS && Due.wrongSoFar() < 5; seed++) new ModelTest(seed).run(seed);
        Due.end();
    }

    private void run(int seed) {
        buildHull();
        while (asked < MOST_ASKED && isAsDue) call();
        if (!isAsDue) System.out.println("run " + seed + ":\n" + calls);
    }

    private void same(String name, long got, long want, int... arguments) {
        StringBuilder call = new StringBuilder(name).append('(');
        for (int i = 0; i < arguments.length; i++) call.append(i > 0 ? ", " : "").append(arguments[i]);
        call.append(')');
        calls.append(call).append(' ').append(got).append('\n');
        Due.is(call.toString(), got, want);
        asked++;
        isAsDue = isAsDue && got == want;
    }

    private int from(int low, int high) {
        return low + random.nextInt(high - low + 1);
    }

    /** Mostly within, now and then beside it. */
    private int about(int low, int high) {
        int dice = random.nextInt(60);
        if (dice == 0) return low - 1;
        if (dice == 1) return high + 1;
        if (dice == 2) return random.nextInt();
        if (dice < 7) return random.nextBoolean() ? low : high;
        return from(low, high);
    }

    private int name() {
        int dice = random.nextInt(40);
        if (dice == 0) return from(-1, 60);
        if (dice == 1) return random.nextInt();
        int chosen = from(1, names);
        return chosen % 3 == 0 ? 27 * chosen + chosen : chosen % 5 == 0 ? 531440 - chosen : chosen;
    }

    private void buildHull() {
        hull(isSmall ? from(2, 5) : from(2, 10));
        for (int i = 0; i < plain.count(0); i++) {
            if (random.nextInt(4) > 0) section(i, from(1, random.nextBoolean() ? 40 : 6), random.nextInt(3) == 0 ? from(0, 8) : 0);
        }
        set(0, isSmall ? from(1, 12) : from(1, 60));
        set(1, isSmall ? from(1, 40) : from(1, 600));
        for (int i = random.nextInt(names); i > 0; i--) put();
    }

    private void hull(int n) {
        same("hull", x.hull(n), plain.hull(n), n);
    }

    private void section(int i, int wide, int rise) {
        same("section", x.section(i, wide, rise), plain.section(i, wide, rise), i, wide, rise);
    }

    private void set(int what, int v) {
        same("set", x.set(what, v), plain.set(what, v), what, v);
    }

    private void put() {
        int n = name(), k = about(0, 4), w = about(1, weights), i = about(0, plain.count(0) - 1);
        int s = isSmall && random.nextBoolean() ? from(-3, 3) : about(-20, 20), u = about(0, isSmall ? 6 : 40);
        same("put", x.put(n, k, w, i, s, u), plain.put(n, k, w, i, s, u), n, k, w, i, s, u);
    }

    private void call() {
        switch (random.nextInt(12)) {
            case 0: case 1: callOfHull(); break;
            case 2: case 3: case 4: callOfGoods(); break;
            case 5: callOfTanks(); break;
            case 6: case 7: callOfWater(); break;
            case 8: callOfOrders(); break;
            case 9: callOfTape(); break;
            case 10: callOfRows(); break;
            default: callOfTold(); break;
        }
    }

    private void callOfHull() {
        switch (random.nextInt(12)) {
            case 0: if (random.nextInt(6) == 0) hull(about(2, 10)); break;
            case 1: section(about(0, plain.count(0) - 1), about(1, 40), about(0, 9)); break;
            case 2: set(0, about(1, isSmall ? 12 : 60)); break;
            case 3: set(1, about(1, isSmall ? 60 : 900)); break;
            case 4: set(about(0, 2), about(0, 1)); break;
            case 5: same("image", x.image(), plain.image()); break;
            case 6: if (random.nextInt(3) == 0) same("undo", x.undo(), plain.undo()); break;
            default: set(2, about(0, 1)); break;
        }
    }

    private void callOfGoods() {
        int n = name();
        switch (random.nextInt(6)) {
            case 0: case 1: put(); break;
            case 2: if (random.nextBoolean()) same("take", x.take(n), plain.take(n), n); break;
            case 3:
                int i = about(0, plain.count(0) - 1), s = about(-20, 20);
                same("move", x.move(n, i, s), plain.move(n, i, s), n, i, s);
                break;
            case 4:
                int what = about(0, 6);
                same("goods", x.goods(n, what), plain.goods(n, what), n, what);
                break;
            default:
                int k = about(0, 4);
                same("taken", x.taken(n, k), plain.taken(n, k), n, k);
        }
    }

    private void callOfTanks() {
        int t = about(0, 3), v = about(0, isSmall ? 9 : 99);
        if (random.nextInt(3) > 0) {
            same("fill", x.fill(t, v), plain.fill(t, v), t, v);
        } else {
            int i = about(0, plain.count(0) - 1), b = about(0, isSmall ? 8 : 20);
            same("tank", x.tank(t, i, b, v), plain.tank(t, i, b, v), t, i, b, v);
        }
    }

    private void callOfWater() {
        int top = 64 * plain.count(2), d = about(0, random.nextBoolean() ? top : 9999), b = about(-20, 20), m = about(0, top);
        switch (random.nextInt(11)) {
            case 0:
                int i = about(-1, plain.count(0) - 1), p = about(-9999, 9999) % (random.nextBoolean() ? 10001 : top + 70);
                same("water", x.water(i, p), plain.water(i, p), i, p);
                break;
            case 1: same("line", x.line(), plain.line()); break;
            case 2: case 3: for (int w = 0; w < 3; w++) same("trim", x.trim(w), plain.trim(w), w); break;
            case 4: same("trim", x.trim(b), plain.trim(b), b); break;
            case 5: same("off", x.off(b), plain.off(b), b); break;
            case 6: same("heel", x.heel(b), plain.heel(b), b); break;
            case 7: same("steady", x.steady(), plain.steady()); break;
            case 8: same("grounded", x.grounded(d), plain.grounded(d), d); break;
            case 9: same("lighten", x.lighten(d), plain.lighten(d), d); break;
            default: same("more", x.more(m), plain.more(m), m);
        }
    }

    private void callOfOrders() {
        switch (random.nextInt(5)) {
            case 0:
                int n = random.nextInt(5) == 0 ? 0 : name();
                same("next", x.next(n), plain.next(n), n);
                break;
            case 1: same("turn", x.turn(), plain.turn()); break;
            case 2: for (int w = 0; w < 2; w++) same("change", x.change(w), plain.change(w), w); break;
            case 3:
                int by = about(0, 3), k = about(0, 16);
                same("order", x.order(by, k), plain.order(by, k), by, k);
                break;
            default:
                for (int o = 0; o < 4; o++) {
                    for (int j = 0; j <= plain.count(1); j++) same("order", x.order(o, j), plain.order(o, j), o, j);
                }
        }
    }

    private void callOfTape() {
        String text = random.nextInt(10) == 0 ? noise() : text();
        for (int i = 0; i < text.length(); i++) same("feed", x.feed(text.charAt(i)), plain.feed(text.charAt(i)), text.charAt(i));
        if (random.nextInt(12) == 0) same("wipe", x.wipe(), plain.wipe());
        int letter = about(32, 126);
        if (random.nextInt(12) == 0) same("feed", x.feed(letter), plain.feed(letter), letter);
        same("read", x.read(), plain.read());
        same("wipe", x.wipe(), plain.wipe());
    }

    private String noise() {
        StringBuilder text = new StringBuilder();
        for (int i = random.nextInt(9); i > 0; i--) text.append("put move take fill wet;ab109-- ".charAt(random.nextInt(31)));
        return text.toString();
    }

    private String text() {
        StringBuilder text = new StringBuilder(act());
        for (int i = random.nextInt(4); i > 0; i--) text.append(';').append(act());
        if (random.nextInt(3) > 0) return text.toString();
        int at = random.nextInt(text.length());
        switch (random.nextInt(4)) {
            case 0: text.setLength(at); break;
            case 1: text.deleteCharAt(at); break;
            case 2: text.insert(at, text.charAt(random.nextInt(text.length()))); break;
            default: text.setCharAt(at, (char) from(32, 126));
        }
        return text.toString();
    }

    private String act() {
        String name = Desk.letters(from(1, names));
        int section = from(0, plain.count(0) - (random.nextInt(9) > 0 ? 1 : 0));
        switch (random.nextInt(5)) {
            case 0: return "put " + name + " " + from(0, 4) + " " + from(1, weights) + " " + section + " " + from(-21, 21) + " " + from(0, 40);
            case 1: return "move " + name + " " + section + " " + from(-20, 20);
            case 2: return "take " + name;
            case 3: return "fill " + from(0, 3) + " " + from(0, 9);
            default: return WORDS[random.nextInt(50) == 0 ? random.nextInt(5) : 4] + " " + from(0, 1);
        }
    }

    private void callOfRows() {
        int r = about(0, 2), i = about(0, 17), v = about(-2, 64 * plain.count(2)), n = name();
        switch (random.nextInt(8)) {
            case 0:
                int size = about(-1, 40);
                if (random.nextInt(4) == 0) same("row", x.row(r, size), plain.row(r, size), r, size);
                break;
            case 1: if (random.nextInt(4) == 0) same("store", x.store(r, i, v), plain.store(r, i, v), r, i, v); break;
            case 2: same("get", x.get(r, i), plain.get(r, i), r, i); break;
            case 3: case 4: film(r); break;
            default: fits(r, random.nextInt(3) == 0 ? i : from(0, plain.count(1) + 1), n);
        }
    }

    private void film(int r) {
        same("film", x.film(r), plain.film(r), r);
        for (int i = 0; i < 18; i++) same("get", x.get(r, i), plain.get(r, i), r, i);
    }

    private void fits(int r, int m, int n) {
        int what = about(0, 1);
        same("fits", x.fits(r, m, n, what), plain.fits(r, m, n, what), r, m, n, what);
        same("goods", x.goods(n, 1), plain.goods(n, 1), n, 1);
    }

    private void callOfTold() {
        int what = about(0, 7);
        switch (random.nextInt(4)) {
            case 0: same("count", x.count(what), plain.count(what), what); break;
            case 1: for (int w = 0; w < 8; w++) same("told", x.told(w), plain.told(w), w); break;
            case 2: same("told", x.told(what), plain.told(what), what); break;
            default:
                int length = plain.say(-1);
                for (int i = -2; i <= length; i++) same("say", x.say(i), plain.say(i), i);
        }
    }
}
