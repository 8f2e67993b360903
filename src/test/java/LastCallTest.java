import java.util.function.ToIntFunction;

/** "An object is used for at most 512 calls after it has been made": the 512th answers as the first did. */
public final class LastCallTest {
    private static final int MOST_CALLS = 512;

    public static void main(String[] args) {
        eachAsTheLast();
        noRoomIsLeftBehind();
        Due.end();
    }

    private static void last(String call, int due, ToIntFunction<BoatTrim> asked) {
        BoatTrim x = Laden.desk();
        for (int made = Laden.CALLS; made < MOST_CALLS - 1; made++) {
            if (x.move(Laden.A, 0, -5) != 0) Due.is("7: call " + made, 1, 0);
        }
        Due.is(call, asked.applyAsInt(x), due);
    }

    private static void eachAsTheLast() {
        last("2: the last call is hull(9)", 4, x -> x.hull(9));
        last("3: the last call is section(1, 2, 3)", 1000, x -> x.section(1, 2, 3));
        last("4: the last call is set(1, 5)", 77, x -> x.set(1, 5));
        last("5: the last call is put(6, ..)", 6, x -> x.put(6, 0, 1, 0, 0, 0));
        last("6: the last call is take(1)", 9, x -> x.take(Laden.A));
        last("11: the last call is fill(0, 9)", 4, x -> x.fill(0, 9));
        last("12: the last call is told(0)", 77 + 9 + 12 + 21 + 8 + 16 + 4 + 5, x -> x.told(0));
        last("27: the last call is say(0)", 'a', x -> x.say(0));
        last("28: the last call is feed(;)", 23, x -> x.feed(';'));
        last("30: the last call is read()", 2, x -> x.read());
        last("34: the last call is film(1)", 6, x -> x.film(1));
        last("35: the last call is image()", 5, x -> x.image());
        last("36: the last call is undo()", 1, x -> x.undo());
    }

    /** 512 times the same: what fills up and is emptied again is never used up. */
    private static void noRoomIsLeftBehind() {
        BoatTrim goods = new BoatTrim();
        for (int i = 0; i < MOST_CALLS / 2; i++) {
            Due.is("5: put " + i, goods.put(1 + i % 26, 0, 5, 0, 0, 0), 1);
            Due.is("6: take " + i, goods.take(1 + i % 26), 5);
        }
        BoatTrim tape = new BoatTrim();
        for (int i = 0; i < MOST_CALLS; i++) Due.is("28: byte " + i, tape.feed('x'), i < 80 ? i + 1 : BoatTrim.FULL);
        BoatTrim rows = new BoatTrim();
        for (int i = 0; i < MOST_CALLS; i++) Due.is("31: row " + i, rows.row(i % 3, 40 - i % 42), 1);
        BoatTrim images = new BoatTrim();
        for (int i = 0; i < MOST_CALLS / 2; i++) {
            Due.is("35: image " + i, images.image(), 0);
            Due.is("36: undo " + i, images.undo(), 0);
        }
        BoatTrim reads = new BoatTrim();
        for (int i = 0; i < MOST_CALLS; i++) Due.is("30: read " + i, reads.read(), -100);
    }
}
