import java.util.function.ToLongFunction;

/**
 * Objects in states in which calls are refused, and a look at all that a call could have changed.
 * The look itself changes the object: so each state is made twice, once with the call and once
 * without it, and the two looks must be alike.
 */
final class Scenes {
    /** Ten gates of all kinds on four chips; gate 9 is its own source. */
    static final String BOARD = "B42i0i1n20a301o112x034r150r261n37a098";
    static final int GATES = 10;

    private Scenes() {
    }

    /** No board was made, nothing was written. */
    static ChipSlots bare() {
        return new ChipSlots();
    }

    /** The board stands, and nothing has happened since. */
    static ChipSlots fresh() {
        return Check.boardOf(BOARD, GATES);
    }

    /** One act, one observation, one slot that is kept in, and a text that ends too early. */
    static ChipSlots begun() {
        ChipSlots x = fresh();
        x.input(0, 1);
        x.keep(0);
        x.see(1, 6, 1, 0);
        x.seed(12345);
        x.write('i');
        return x;
    }

    /** More than 14 acts, six observations, both slots kept in, and a full text with a fault. */
    static ChipSlots busy() {
        ChipSlots x = fresh();
        x.step(2);
        x.input(1, 2);
        x.pins(9);
        x.input(0, 1);
        x.step(3);
        x.lay(2, 3);
        x.pins(5);
        x.keep(0);
        x.step(99);
        x.lay(9, 1);
        x.input(1, 1);
        x.step(1);
        x.pins(1);
        x.lay(2, 0);
        x.keep(1);
        x.input(0, 2);
        x.step(2);
        x.lay(5, 2);
        x.pins(3);
        x.input(0, 0);
        x.step(1);
        x.see(0, 0, 1, 0);
        x.see(1, 6, 0, 1);
        x.see(2, 7, 2, 0);
        x.see(0, 3, 1, 0);
        x.see(9, 9, 1, 0);
        x.see(1, 8, 2, 0);
        x.seed(-987654321987654321L);
        Check.writeAll(x, BOARD + "?".repeat(90 - BOARD.length()));
        return x;
    }

    /** All that calls can change, as far as other calls tell it. */
    static String everything(ChipSlots x) {
        StringBuilder told = new StringBuilder();
        for (int what = 0; what <= 10; what++) {
            told.append(' ').append(x.count(what));
        }
        for (int g = 0; g < x.count(2); g++) {
            for (int what = 0; what <= 6; what++) {
                told.append(' ').append(x.gate(g, what));
            }
        }
        told.append(" fault ").append(x.fault());
        for (int left = x.count(9); left > 0; left--) {
            told.append(" undo ").append(x.undo()).append(state(x));
        }
        for (int slot = 0; slot < 2; slot++) {
            told.append(" again ").append(x.again(slot)).append(state(x));
        }
        told.append(" seed ").append(x.seed(0)).append(" unsee ").append(x.unsee());
        told.append(" board ").append(x.board());
        return told.toString();
    }

    private static String state(ChipSlots x) {
        StringBuilder told = new StringBuilder(":");
        for (int what : new int[] {3, 4, 7, 8, 9}) {
            told.append(' ').append(x.count(what));
        }
        for (int g : new int[] {2, 5, 9}) {
            told.append(' ').append(x.gate(g, 1));
        }
        return told.append(' ').append(x.which()).toString();
    }

    /** Whether the object with the call looks like the one without it. */
    static void same(String what, ChipSlots with, ToLongFunction<ChipSlots> call, long want, ChipSlots without) {
        Check.due(what, call.applyAsLong(with), want);
        String got = everything(with);
        String due = everything(without);
        Check.isTrue(what + " changed " + due + " to " + got, got.equals(due));
    }
}
