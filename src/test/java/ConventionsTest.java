import java.util.function.Supplier;
import java.util.function.ToLongFunction;

/** CONVENTIONS: every refused call leaves all as it was, and the error that is named first is told. */
public final class ConventionsTest {
    private static final int UNKNOWN = ChipSlots.UNKNOWN;
    private static final int OUTSIDE = ChipSlots.OUTSIDE;
    private static final int STATE = ChipSlots.STATE;
    private static final int FULL = ChipSlots.FULL;
    private static final int NONE = ChipSlots.NONE;
    private static final int LEAST = Integer.MIN_VALUE;
    private static final int MOST = Integer.MAX_VALUE;

    /** No number of gates, chips or slots to keep in reaches any of these. */
    private static final int[] NOWHERE = {-1, 10, LEAST, MOST};

    private final Supplier<ChipSlots> scene;
    private final String name;

    private ConventionsTest(String name, Supplier<ChipSlots> scene) {
        this.name = name;
        this.scene = scene;
    }

    public static void main(String[] args) {
        constants();
        lastCall();
        numbering();
        sets();
        refused();
        severalErrors();
        noneAfterErrors();
        callsThatOnlyLook();
        fractions();
        Check.finish();
    }

    private static void sentence(String words) {
        Check.sentence(words);
    }

    private static void due(String what, long got, long want) {
        Check.due(what, got, want);
    }

    private static void constants() {
        sentence("The error codes are UNKNOWN (-1, there is no such gate, chip or slot to keep in), OUTSIDE (-2, another "
            + "argument is out of its range), STATE (-3) and FULL (-4), as told at the methods.");
        due("UNKNOWN", UNKNOWN, -1);
        due("OUTSIDE", OUTSIDE, -2);
        due("STATE", STATE, -3);
        due("FULL", FULL, -4);
        sentence("NONE (-9) means \"there is none\".");
        due("NONE", NONE, -9);
        due("no second source", Check.boardOf("B11i0", 1).gate(0, 3), -9);
    }

    private static void lastCall() {
        sentence("An object is used for at most 512 calls after it has been made; what later calls answer is free.");
        ChipSlots x = new ChipSlots();
        for (int call = 1; call <= 512; call++) {
            due("call " + call, x.step(99), 99L * call);
        }
        ChipSlots y = new ChipSlots();
        for (int call = 1; call <= 511; call++) {
            y.write('B');
        }
        due("call 512", y.wipe(), 90);
    }

    private static void numbering() {
        sentence("All numbering starts at 0.");
        ChipSlots x = Check.boardOf("B31i0i1i2", 3);
        Check.row("gate on chip", g -> x.gate(g, 1), 0, 1, 2, UNKNOWN);
        Check.row("share of chip", c -> x.share(c, true), 1, 1, 1, UNKNOWN);
        Check.row("first slot on chip", c -> x.when(0, c), 0, NONE, NONE, UNKNOWN);
        Check.row("keep in slot", x::keep, 0, 0, UNKNOWN);
        due("the first statement", x.judge(2, 999101), 0);
        due("the second statement", x.judge(2, 101999), 1);
    }

    private static void sets() {
        sentence("Sets of gates are bits: bit g stands for gate g.");
        ChipSlots inputs = Check.boardOf("B11" + "i0".repeat(10), 10);
        due("all inputs", inputs.count(5), 1023);
        due("all can be stuck", inputs.which(), 1023);
        for (int g = 0; g < 10; g++) {
            inputs.input(g, 1);
            due("gate " + g + " is 1", inputs.count(7), 1 << g);
            inputs.input(g, 2);
            due("gate " + g + " is unknown", inputs.count(8), 1 << g);
            inputs.input(g, 0);
        }
        due("all registers", Check.boardOf("B11" + "r000".repeat(10), 10).count(6), 1023);
        due("all readers", Check.boardOf("B11" + "n00".repeat(10), 10).gate(0, 6), 1023);
        due("all unknown", Check.boardOf("B11" + "n00".repeat(10), 10).count(8), 1023);
    }

    private static void refused() {
        sentence("A call that returns an error code changes nothing.");
        new ConventionsTest("bare", Scenes::bare).withoutGates();
        new ConventionsTest("fresh", Scenes::fresh).withTenGates();
        new ConventionsTest("fresh", Scenes::fresh).nothingToGoBackTo();
        new ConventionsTest("begun", Scenes::begun).withTenGates();
        new ConventionsTest("begun", Scenes::begun).begunText();
        new ConventionsTest("busy", Scenes::busy).withTenGates();
        new ConventionsTest("busy", Scenes::busy).allFull();
    }

    private void no(String what, int error, ToLongFunction<ChipSlots> call) {
        Scenes.same(name + ": " + what, scene.get(), call, error, scene.get());
    }

    private void withoutGates() {
        for (int g : new int[] {0, -1, 9, 10}) {
            no("gate", UNKNOWN, x -> x.gate(g, 0));
            no("input", UNKNOWN, x -> x.input(g, 0));
            no("lay", UNKNOWN, x -> x.lay(g, 0));
            no("ahead", UNKNOWN, x -> x.ahead(0, g));
            no("when", UNKNOWN, x -> x.when(g, 0));
            no("see", UNKNOWN, x -> x.see(0, g, 0, 0));
            no("fails", UNKNOWN, x -> x.fails(g, 0, 0, 0, true));
        }
        no("share", UNKNOWN, x -> x.share(1, false));
        no("board", STATE, ChipSlots::board);
        nothingToGoBackTo();
        ranges();
    }

    private void nothingToGoBackTo() {
        no("undo", STATE, ChipSlots::undo);
        no("again(0)", STATE, x -> x.again(0));
        no("again(1)", STATE, x -> x.again(1));
    }

    private void begunText() {
        no("board", STATE, ChipSlots::board);
        no("again(1)", STATE, x -> x.again(1));
    }

    private void allFull() {
        for (int letter : new int[] {0, 'B', 255}) {
            no("write", FULL, x -> x.write(letter));
        }
        no("see", FULL, x -> x.see(0, 0, 0, 0));
        no("see", FULL, x -> x.see(9, 9, 2, 1));
        no("board", STATE, ChipSlots::board);
    }

    private void withTenGates() {
        for (int g : NOWHERE) {
            noSuchGate(g);
        }
        for (int c : new int[] {-1, 4, LEAST, MOST}) {
            noSuchChip(c);
        }
        for (int g = 2; g < 10; g++) {
            int gate = g;
            no("input of another kind", STATE, x -> x.input(gate, 1));
        }
        for (int g = 0; g < 10; g++) {
            int gate = g;
            no("lay where it is", STATE, x -> x.lay(gate, x.gate(gate, 1)));
        }
        for (int v : new int[] {-1, 3, LEAST, MOST}) {
            no("input", OUTSIDE, x -> x.input(0, v));
            no("see", OUTSIDE, x -> x.see(0, 0, v, 0));
        }
        for (int what : new int[] {-1, 7, LEAST, MOST}) {
            no("gate", OUTSIDE, x -> x.gate(9, what));
        }
        for (int n : new int[] {-1, 10, LEAST, MOST}) {
            no("see", OUTSIDE, x -> x.see(n, 9, 2, 1));
        }
        for (int was : new int[] {-1, 2, LEAST, MOST}) {
            no("see", OUTSIDE, x -> x.see(9, 9, 2, was));
        }
        for (int n : new int[] {-1, 9, LEAST, MOST}) {
            no("fails", OUTSIDE, x -> x.fails(9, 3, n, 10, true));
        }
        for (int tenths : new int[] {-1, 11, LEAST, MOST}) {
            no("fails", OUTSIDE, x -> x.fails(9, 3, 8, tenths, false));
        }
        ranges();
    }

    private void noSuchGate(int g) {
        no("gate", UNKNOWN, x -> x.gate(g, 0));
        no("input", UNKNOWN, x -> x.input(g, 1));
        no("lay", UNKNOWN, x -> x.lay(g, 0));
        no("ahead", UNKNOWN, x -> x.ahead(1, g));
        no("when", UNKNOWN, x -> x.when(g, 0));
        no("see", UNKNOWN, x -> x.see(0, g, 1, 1));
        no("fails", UNKNOWN, x -> x.fails(g, 0, 1, 1, true));
    }

    private void noSuchChip(int c) {
        no("lay", UNKNOWN, x -> x.lay(0, c));
        no("when", UNKNOWN, x -> x.when(0, c));
        no("share", UNKNOWN, x -> x.share(c, true));
        no("fails", UNKNOWN, x -> x.fails(0, c, 1, 1, false));
    }

    /** The ranges that do not depend on the board. */
    private void ranges() {
        for (int letter : new int[] {-1, 256, LEAST, MOST}) {
            no("write", OUTSIDE, x -> x.write(letter));
        }
        for (int n : new int[] {0, 100, LEAST, MOST}) {
            no("step", OUTSIDE, x -> x.step(n));
            no("fewest", OUTSIDE, x -> x.fewest(n));
        }
        for (int v : new int[] {0, 10, LEAST, MOST}) {
            no("pins", OUTSIDE, x -> x.pins(v));
        }
        for (int n : new int[] {-1, 100, LEAST, MOST}) {
            no("ahead", OUTSIDE, x -> x.ahead(n, 0));
        }
        for (int m : new int[] {0, 21, LEAST, MOST}) {
            no("drawn", OUTSIDE, x -> x.drawn(m));
        }
        for (int what : new int[] {-1, 2, LEAST, MOST}) {
            no("round", OUTSIDE, x -> x.round(what));
        }
        for (int what : new int[] {-1, 4, LEAST, MOST}) {
            no("slots", OUTSIDE, x -> x.slots(what));
        }
        for (int what : new int[] {-1, 11, LEAST, MOST}) {
            no("count", OUTSIDE, x -> x.count(what));
        }
        for (int slot : new int[] {-1, 2, LEAST, MOST}) {
            no("keep", UNKNOWN, x -> x.keep(slot));
            no("again", UNKNOWN, x -> x.again(slot));
        }
        for (int n : new int[] {0, 5, LEAST, MOST}) {
            no("judge", OUTSIDE, x -> x.judge(n, 0));
        }
        for (long row : new long[] {-1, 1000, Long.MIN_VALUE, Long.MAX_VALUE}) {
            no("judge", OUTSIDE, x -> x.judge(1, row));
        }
    }

    private static void severalErrors() {
        sentence("If several errors apply, the one that the description of the result names first is returned.");
        ConventionsTest busy = new ConventionsTest("busy, several errors", Scenes::busy);
        busy.no("write: outside, full", OUTSIDE, x -> x.write(256));
        busy.no("write: outside, full", OUTSIDE, x -> x.write(-1));
        busy.no("gate: unknown, outside", UNKNOWN, x -> x.gate(10, 7));
        busy.no("gate: unknown, outside", UNKNOWN, x -> x.gate(-1, -1));
        busy.no("input: unknown, outside", UNKNOWN, x -> x.input(10, 3));
        busy.no("input: unknown, outside", UNKNOWN, x -> x.input(-1, -1));
        busy.no("input: state, outside", STATE, x -> x.input(2, 3));
        busy.no("input: state, outside", STATE, x -> x.input(9, -1));
        busy.no("ahead: outside, unknown", OUTSIDE, x -> x.ahead(100, 10));
        busy.no("ahead: outside, unknown", OUTSIDE, x -> x.ahead(-1, -1));
        busy.no("see: unknown, outside, full", UNKNOWN, x -> x.see(10, 10, 3, 2));
        busy.no("see: unknown, full", UNKNOWN, x -> x.see(0, -1, 0, 0));
        busy.no("see: outside, full", OUTSIDE, x -> x.see(10, 0, 0, 0));
        busy.no("see: outside, full", OUTSIDE, x -> x.see(0, 0, 3, 0));
        busy.no("see: outside, full", OUTSIDE, x -> x.see(0, 0, 0, 2));
        busy.no("fails: unknown, outside", UNKNOWN, x -> x.fails(10, 0, 9, 0, true));
        busy.no("fails: unknown, outside", UNKNOWN, x -> x.fails(0, 4, 0, 11, true));
        ConventionsTest fresh = new ConventionsTest("fresh, several errors", Scenes::fresh);
        fresh.no("see: unknown, outside", UNKNOWN, x -> x.see(-1, 10, 0, 0));
        fresh.no("again: no such slot, and none is kept", UNKNOWN, x -> x.again(2));
    }

    private static void noneAfterErrors() {
        sentence("NONE is returned only if no error applies.");
        ChipSlots x = Check.boardOf("B21i0n10", 2);
        due("an input has no source", x.gate(0, 2), NONE);
        due("nor has a gate that does not exist", x.gate(2, 2), UNKNOWN);
        due("a gate that is never there", x.when(1, 0), NONE);
        due("on no such chip", x.when(1, 2), UNKNOWN);
        due("not in one slot", x.fewest(1), NONE);
        due("not in no slot", x.fewest(0), OUTSIDE);
        due("right statements", x.judge(1, 101), NONE);
        due("no statements", x.judge(0, 0), OUTSIDE);
        x.lay(1, 0);
        due("nothing is sent", x.slots(2), NONE);
        due("nothing is sent", x.slots(4), OUTSIDE);
        ChipSlots five = Check.boardOf("B11r060r000r010r020r030x042n05", 7);
        due("no period", five.round(1), NONE);
        due("no period", five.round(2), OUTSIDE);
    }

    private static void callsThatOnlyLook() {
        sentence("Nothing is promised beyond the answers and state changes described above");
        ConventionsTest busy = new ConventionsTest("busy, a look", Scenes::busy);
        busy.no("fault", Scenes.BOARD.length(), ChipSlots::fault);
        for (int what = 0; what <= 1; what++) {
            int asked = what;
            busy.looks("round", x -> x.round(asked));
        }
        for (int what = 0; what <= 3; what++) {
            int asked = what;
            busy.looks("slots", x -> x.slots(asked));
        }
        busy.looks("ahead", x -> x.ahead(99, 7));
        busy.looks("when", x -> x.when(0, 3));
        busy.looks("fewest", x -> x.fewest(1));
        busy.looks("judge", x -> x.judge(4, 201331607199L));
        busy.looks("which", ChipSlots::which);
        busy.looks("share", x -> x.share(3, true));
        busy.looks("fails", x -> x.fails(0, 3, 8, 5, true));
        busy.looks("drawn, but for the seed", x -> {
            long before = x.seed(0);
            int sum = x.drawn(20);
            x.seed(before);
            return sum;
        });
    }

    private void looks(String what, ToLongFunction<ChipSlots> call) {
        no(what, (int) call.applyAsLong(scene.get()), call);
    }

    private static void fractions() {
        sentence("Methods that return a fraction return its numerator if upper is true and its denominator if it is false; "
            + "fractions are in lowest terms with a positive denominator (0 is 0 / 1).");
        ChipSlots x = Check.boardOf("B31i0n10n10", 3);
        due("share 2 over", x.share(0, true), 2);
        due("share 2 under", x.share(0, false), 1);
        due("share 0 over", x.share(2, true), 0);
        due("share 0 under", x.share(2, false), 1);
        due("4/10 over", x.fails(0, 1, 1, 6, true), 2);
        due("4/10 under", x.fails(0, 1, 1, 6, false), 5);
        due("never over", x.fails(0, 2, 8, 0, true), 0);
        due("never under", x.fails(0, 2, 8, 0, false), 1);
        due("surely over", x.fails(0, 1, 8, 0, true), 1);
        due("surely under", x.fails(0, 1, 8, 0, false), 1);
        due("the greatest over", x.fails(0, 1, 8, 1, true), 99999999);
        due("the greatest under", x.fails(0, 1, 8, 1, false), 100000000);
        due("without gates over", new ChipSlots().share(0, true), 0);
        due("without gates under", new ChipSlots().share(0, false), 1);
    }
}
