/** THE SCHEDULE and promises 14 to 16 and 22: a test for each sentence that names a boundary. */
public final class ScheduleBoundariesTest {
    private static final int UNKNOWN = ChipSlots.UNKNOWN;
    private static final int OUTSIDE = ChipSlots.OUTSIDE;
    private static final int NONE = ChipSlots.NONE;

    /** Each gate reads the one before it on the farthest chip, in a ring: 30 sendings, one in each slot. */
    private static final String LONGEST = "B41r090n30n01n32n03n34n05n36n07n38";
    /** Six inputs on chip 0 for three ands on chip 1: more cannot be wanted at once by ten gates. */
    private static final String WIDEST = "B21i0i0i0i0i0i0a101a123a145";
    /** Five inputs on chip 0, which a not on chip 1 and two ands on chip 2 want. */
    private static final String TWO_LINKS = "B31i0i0i0i0i0n14a201a223";

    private ScheduleBoundariesTest() {
    }

    public static void main(String[] args) {
        notOnValues();
        slotZero();
        sameSlot();
        lowestOnes();
        eachDirection();
        eachTwoNeighbors();
        nextSlot();
        determinedByPartOne();
        wanted();
        wantedOnTheWay();
        wantedByLoops();
        numberOfSlots();
        firstSlots();
        never();
        whenErrors();
        slotNumbers();
        valuesSent();
        lastSent();
        bestMoves();
        noMove();
        severalMoves();
        slotErrors();
        fewest();
        fewestNone();
        fewestErrors();
        failing();
        failingSlots();
        failingTenths();
        failErrors();
        Check.finish();
    }

    private static void sentence(String words) {
        Check.sentence(words);
    }

    private static void due(String what, long got, long want) {
        Check.due(what, got, want);
    }

    // ---- THE SCHEDULE

    private static void notOnValues() {
        sentence("The schedule of a step depends only on the chips, the pins and the gates, not on values.");
        ChipSlots x = Check.boardOf("B21i0i0r001a112n12n05", 6);
        for (int v = 2; v >= 0; v--) {
            x.input(0, v);
            x.input(1, 2 - v);
            due("slots with input " + v, x.slots(0), 3);
            due("values sent with input " + v, x.slots(1), 2);
            due("when with input " + v, x.when(3, 1), 2);
            x.step(1);
        }
        x.pins(2);
        due("but on the pins", x.slots(0), 2);
        x.lay(3, 0);
        x.lay(4, 0);
        due("and on the chips", x.slots(0), 1);
    }

    private static void slotZero() {
        sentence("In slot 0, each input and each register is available on its own chip.");
        ChipSlots x = Check.boardOf("B41i0r140r201i3r340", 5);
        due("input on chip 0", x.when(0, 0), 0);
        due("register with clock 0", x.when(1, 1), 0);
        due("register with clock 1", x.when(2, 2), 0);
        due("input on chip 3", x.when(3, 3), 0);
        due("its own source", x.when(4, 3), 0);
        due("on another chip not yet", x.when(0, 1), 1);
        ChipSlots behind = Check.boardOf("B11n00r000", 2);
        due("a register behind a loop", behind.when(1, 0), 0);
    }

    private static void sameSlot() {
        sentence("1. Each not, and, or and xor gate all of whose sources are available on its chip becomes available on its "
            + "chip; this is repeated in the same slot until nothing changes.");
        ChipSlots back = Check.boardOf("B11n01n02n03n04n05n06n07n08n09i0", 10);
        for (int g = 0; g < 10; g++) {
            due("told backwards, gate " + g, back.when(g, 0), 0);
        }
        ChipSlots kinds = Check.boardOf("B21x112o123a134n14i0", 5);
        for (int g = 0; g < 4; g++) {
            due("in slot 1, gate " + g, kinds.when(g, 1), 1);
        }
        ChipSlots both = Check.boardOf("B21i0i1a101", 3);
        due("only with both sources", both.when(2, 1), 1);
        ChipSlots other = Check.boardOf("B21i0n10", 2);
        due("not on another chip", other.when(1, 0), NONE);
    }

    private static void lowestOnes() {
        sentence("2. Then, between each two neighboring chips, and in both directions, values are sent: of the gates that are "
            + "available on the one chip, not available on the other one, and wanted there, the lowest ones, at most as many "
            + "as there are pins in each direction.");
        int[][] want = {{1, 2, 3, 4, 5, 6}, {1, 1, 2, 2, 3, 3}, {1, 1, 1, 2, 2, 2}, {1, 1, 1, 1, 2, 2}, {1, 1, 1, 1, 1, 2},
            {1, 1, 1, 1, 1, 1}, {1, 1, 1, 1, 1, 1}, {1, 1, 1, 1, 1, 1}, {1, 1, 1, 1, 1, 1}};
        ChipSlots x = Check.boardOf(WIDEST, 9);
        for (int pins = 1; pins <= 9; pins++) {
            x.pins(pins);
            Check.row(pins + " pins, gate", g -> x.when(g, 1), want[pins - 1]);
        }
        // A lower gate that comes later goes before a higher one that still waits.
        ChipSlots late = Check.boardOf("B21n01i1i0i0i0a123a140", 7);
        Check.row("on chip 1, gate", g -> late.when(g, 1), 2, 0, 1, 3, 4, 3, 4);
    }

    private static void eachDirection() {
        sentence("at most as many as there are pins in each direction");
        ChipSlots x = Check.boardOf("B21i0i0i1i1a101a023", 6);
        due("two slots for both directions", x.slots(0), 3);
        Check.row("to the right, gate", g -> x.when(g, 1), 1, 2);
        due("to the left", x.when(2, 0), 1);
        due("to the left", x.when(3, 0), 2);
        x.pins(2);
        due("one slot with two pins", x.slots(0), 2);
        due("four values", x.slots(1), 4);
    }

    private static void eachTwoNeighbors() {
        sentence("between each two neighboring chips, and in both directions, values are sent");
        ChipSlots x = Check.boardOf("B41i0i1i2i3n10n21n32n23", 8);
        due("three links at once", x.slots(0), 2);
        due("four values", x.slots(1), 4);
        due("to the right over the last link", x.when(2, 3), 1);
        due("to the left over the last link", x.when(3, 2), 1);
    }

    private static void nextSlot() {
        sentence("They are available on the other chip from the beginning of the next slot on.");
        ChipSlots x = Check.boardOf("B21i0n10n01n12", 4);
        due("sent in slot 0", x.when(0, 1), 1);
        due("and used in slot 1", x.when(1, 1), 1);
        due("sent back in slot 1", x.when(1, 0), 2);
        due("and sent again in slot 2", x.when(2, 1), 3);
        due("and used in slot 3", x.when(3, 1), 3);
    }

    private static void determinedByPartOne() {
        sentence("(All that is sent in a slot is determined by what is available after part 1.)");
        ChipSlots right = Check.boardOf("B41i0n30", 2);
        Check.row("one chip a slot to the right", c -> right.when(0, c), 0, 1, 2, 3);
        ChipSlots left = Check.boardOf("B41i3n00", 2);
        Check.row("one chip a slot to the left", c -> left.when(0, c), 3, 2, 1, 0);
        ChipSlots late = Check.boardOf("B31i0i1n20n21", 4);
        due("gate 1 goes in slot 0, as gate 0 is not there yet", late.when(1, 2), 1);
        due("gate 0 follows", late.when(0, 2), 2);
    }

    private static void wanted() {
        sentence("A gate is wanted on a chip other than its own if a gate of which it is a source is on that chip, or on a "
            + "chip beyond it as seen from the own chip of the former.");
        ChipSlots x = Check.boardOf("B41i1n20", 2);
        Check.row("wanted on chip 2 alone", c -> x.when(0, c), NONE, 0, 1, NONE);
        x.lay(1, 0);
        Check.row("wanted on chip 0 alone", c -> x.when(0, c), 1, 0, NONE, NONE);
        x.lay(1, 1);
        Check.row("wanted on no other chip", c -> x.when(0, c), NONE, 0, NONE, NONE);
        ChipSlots both = Check.boardOf("B41i1n00n30", 3);
        Check.row("wanted to both sides", c -> both.when(0, c), 1, 0, 1, 2);
        ChipSlots second = Check.boardOf("B21i0i0i1a120o121x102r100", 7);
        due("as a first or second source", second.slots(1), 2);
        ChipSlots register = Check.boardOf("B21i0r101", 2);
        due("by a register too", register.when(0, 1), 1);
        due("its own source is on its own chip", Check.boardOf("B21r100", 1).slots(1), 0);
    }

    private static void wantedOnTheWay() {
        sentence("or on a chip beyond it as seen from the own chip of the former");
        ChipSlots x = Check.boardOf("B41i0n30", 2);
        x.lay(0, 2);
        Check.row("between 2 and 3", c -> x.when(0, c), NONE, NONE, 0, 1);
        x.lay(0, 1);
        Check.row("between 1 and 3", c -> x.when(0, c), NONE, 0, 1, 2);
        x.lay(1, 0);
        Check.row("between 1 and 0", c -> x.when(0, c), 1, 0, NONE, NONE);
        x.lay(0, 3);
        Check.row("between 3 and 0", c -> x.when(0, c), 3, 2, 1, 0);
    }

    private static void wantedByLoops() {
        sentence("if a gate of which it is a source is on that chip");
        ChipSlots x = Check.boardOf("B21i0a101", 2);
        due("a gate in a loop wants its source", x.when(0, 1), 1);
        due("and is never available", x.when(1, 1), NONE);
        due("two slots", x.slots(0), 2);
        ChipSlots loop = Check.boardOf("B21n01n10", 2);
        due("what is never available is not sent", loop.slots(1), 0);
    }

    private static void numberOfSlots() {
        sentence("The step takes as many slots as there are in which something is sent, and one more.");
        due("nothing is sent", Check.boardOf("B41i0n00", 2).slots(0), 1);
        due("without gates", new ChipSlots().slots(0), 1);
        ChipSlots x = Check.boardOf(LONGEST, 10);
        due("the most slots", x.slots(0), 31);
        due("the most values", x.slots(1), 30);
        x.lay(0, 1);
        due("two sendings fewer", x.slots(0), 29);
        x.pins(9);
        due("pins do not help", x.slots(0), 29);
    }

    // ---- promise 14

    private static void firstSlots() {
        sentence("Returns the first slot in which a gate is available on a chip.");
        ChipSlots x = Check.boardOf(LONGEST, 10);
        for (int g = 0; g < 10; g++) {
            int own = g % 2 == 0 ? 0 : 3;
            due("14: on its own chip, gate " + g, x.when(g, own), 3 * g);
            due("14: on the farthest chip, gate " + g, x.when(g, 3 - own), 3 * g + 3);
        }
        due("14: the latest of all", x.when(9, 0), 30);
    }

    private static void never() {
        sentence("NONE if it never is");
        ChipSlots x = Check.boardOf("B31i0n01i2", 3);
        due("14: a loop", x.when(1, 0), NONE);
        due("14: a chip that does not want it", x.when(0, 1), NONE);
        due("14: an input without readers", x.when(2, 1), NONE);
        due("14: on its own chip", x.when(2, 2), 0);
    }

    private static void whenErrors() {
        sentence("Returns the slot; NONE if it never is; UNKNOWN if there is no such gate or chip.");
        for (int chips = 1; chips <= 4; chips++) {
            ChipSlots x = Check.boardOf("B" + chips + "1i0r" + (chips - 1) + "00", 2);
            due("14: the last gate on the last chip", x.when(1, chips - 1), 0);
            due("14: the first gate on the last chip", x.when(0, chips - 1), chips - 1);
            Check.beside("14: when(0, ..)", 0, chips - 1, UNKNOWN, c -> x.when(0, c));
            Check.beside("14: when(.., 0)", 0, 1, UNKNOWN, g -> x.when(g, 0));
            due("14: neither gate nor chip", x.when(2, chips), UNKNOWN);
        }
        due("14: gate 10", Check.boardOf(LONGEST, 10).when(10, 0), UNKNOWN);
    }

    // ---- promise 15

    private static void slotNumbers() {
        sentence("0 for the number of slots that the step takes");
        ChipSlots x = Check.boardOf(WIDEST, 9);
        int[] want = {7, 4, 3, 3, 3, 2, 2, 2, 2};
        for (int pins = 1; pins <= 9; pins++) {
            x.pins(pins);
            due("15: slots with " + pins + " pins", x.slots(0), want[pins - 1]);
            due("15: values with " + pins + " pins", x.slots(1), 6);
            due("15: last gate with " + pins + " pins", x.slots(2), 5);
        }
    }

    private static void valuesSent() {
        sentence("1 for the number of all values that are sent (counted for each two neighboring chips and direction)");
        due("15: none", Check.boardOf("B41i0n00", 2).slots(1), 0);
        due("15: over three links", Check.boardOf("B41i0n30", 2).slots(1), 3);
        due("15: to both sides", Check.boardOf("B41i1n00n30", 3).slots(1), 3);
        due("15: once for all readers", Check.boardOf("B21i0n10a100r100", 4).slots(1), 1);
        due("15: in both directions", Check.boardOf("B21i0i1n10n01", 4).slots(1), 2);
    }

    private static void lastSent() {
        sentence("2 for the greatest gate that is sent in the last slot in which something is sent");
        due("15: gate 0", Check.boardOf("B21i0n10", 2).slots(2), 0);
        due("15: gate 9", Check.boardOf("B21n19i1i1i1i1i1i1i1i1i0", 10).slots(2), 9);
        due("15: over different links", Check.boardOf("B31i0i1n10n21", 4).slots(2), 1);
        due("15: to the left", Check.boardOf("B21i0i1n10n01", 4).slots(2), 1);
        due("15: not a greater one of an earlier slot", Check.boardOf("B31i0i1n20n21", 4).slots(2), 0);
        sentence("NONE for what 2 if nothing is sent");
        due("15: nothing is sent", Check.boardOf("B41i0n00", 2).slots(2), NONE);
        due("15: without gates", new ChipSlots().slots(2), NONE);
    }

    private static void bestMoves() {
        sentence("3 for the best move of one gate to another chip, as 10 * gate + chip");
        due("15: gate 0 to chip 0", Check.boardOf("B21i1n00", 2).slots(3), 0);
        due("15: gate 0 to chip 3", Check.boardOf("B41i0n30", 2).slots(3), 3);
        due("15: gate 9 to chip 3", Check.boardOf("B41i3i3i3i3i3i3i3i3i3x201", 10).slots(3), 93);
        sentence("the number of slots is smallest, then the number of values that are sent");
        // Gate 1 must cross whatever moves; gate 0 or its reader saves a value and, with one pin, a slot.
        ChipSlots x = Check.boardOf("B21i0i0n11n11n01n01n10", 7);
        due("15: a slot and a value", x.slots(3), 1);
        x.pins(2);
        due("15: a value alone", x.slots(3), 1);
        x.lay(0, 1);
        due("15: nothing more", x.slots(3), 100);
        // Gate 0 or its reader saves a value, but no slot; gate 2 in the middle saves a slot, but no value.
        due("15: slots before values", Check.boardOf("B41i0r100i3r020r020r320r320", 7).slots(3), 21);
    }

    private static void noMove() {
        sentence("or 100 for no move");
        due("15: one chip", Check.boardOf("B11i0n00", 2).slots(3), 100);
        due("15: nothing is sent", Check.boardOf("B41i0n00", 2).slots(3), 100);
        due("15: without gates", Check.boardOf("B41", 0).slots(3), 100);
        due("15: nothing helps", Check.boardOf("B21i0r000r000r100r100", 5).slots(3), 100);
    }

    private static void severalMoves() {
        sentence("of several, no move, then the lowest gate, then the lowest chip");
        due("15: gate 0 or gate 1", Check.boardOf("B21i0n10", 2).slots(3), 1);
        due("15: gate 0 or gate 1, told the other way", Check.boardOf("B21n11i0", 2).slots(3), 0);
        due("15: chip 0 or chip 1", Check.boardOf("B31i2n00n10", 3).slots(3), 0);
        due("15: a move that changes nothing is none", Check.boardOf("B21i0i0", 2).slots(3), 100);
    }

    private static void slotErrors() {
        sentence("Returns that number; NONE for what 2 if nothing is sent; OUTSIDE if what is not 0 to 3.");
        ChipSlots x = Check.boardOf("B21i0n10", 2);
        Check.row("15: slots", x::slots, 2, 1, 0, 1, OUTSIDE);
        Check.beside("15: slots", 0, 3, OUTSIDE, x::slots);
        ChipSlots bare = new ChipSlots();
        Check.row("15: slots", bare::slots, 1, 0, NONE, 100, OUTSIDE);
        Check.beside("15: slots", 0, 3, OUTSIDE, bare::slots);
    }

    // ---- promise 16

    private static void fewest() {
        sentence("Finds the smallest number of pins, 1 to 9, with which the step would take at most n slots.");
        ChipSlots x = Check.boardOf(WIDEST, 9);
        int[] want = {6, 3, 2, 2, 2, 1, 1, 1};
        for (int pins : new int[] {1, 6, 9}) {
            x.pins(pins);
            Check.row("16: in two slots and more,", n -> x.fewest(n + 2), want);
            due("16: the pins stay", x.count(3), pins);
        }
        ChipSlots links = Check.boardOf(TWO_LINKS, 8);
        Check.row("16: over two links, in one slot and more,", n -> links.fewest(n + 1), NONE, NONE, 4, 2, 2, 1, 1);
    }

    private static void fewestNone() {
        sentence("Returns the number of pins; NONE if there is none");
        ChipSlots x = Check.boardOf(LONGEST, 10);
        due("16: in 30 slots", x.fewest(30), NONE);
        due("16: in 31 slots", x.fewest(31), 1);
        due("16: in 1 slot", x.fewest(1), NONE);
        x.pins(9);
        due("16: in 30 slots", x.fewest(30), NONE);
    }

    private static void fewestErrors() {
        sentence("`n`: the number of slots, 1 to 99");
        ChipSlots x = Check.boardOf("B11i0", 1);
        due("16: the fewest", x.fewest(1), 1);
        due("16: the most", x.fewest(99), 1);
        sentence("OUTSIDE if n is out of range");
        Check.beside("16: fewest", 1, 99, OUTSIDE, x::fewest);
    }

    // ---- promise 22

    private static void fails(ChipSlots x, int[] call, int upper, int lower) {
        String name = "22: fails(" + call[0] + ", " + call[1] + ", " + call[2] + ", " + call[3] + ")";
        due(name + " over", x.fails(call[0], call[1], call[2], call[3], true), upper);
        due(name + " under", x.fails(call[0], call[1], call[2], call[3], false), lower);
    }

    private static void failing() {
        sentence("Returns the probability that a gate is available on a chip in slot n (after part 1 of it), if each of the "
            + "slots 0 to n - 1 fails with the probability x / 10, independently of the others.");
        ChipSlots x = Check.boardOf("B41i0n30", 2);
        fails(x, new int[] {0, 0, 0, 5}, 1, 1);
        fails(x, new int[] {0, 1, 0, 5}, 0, 1);
        fails(x, new int[] {0, 1, 1, 5}, 1, 2);
        fails(x, new int[] {0, 1, 2, 5}, 3, 4);
        fails(x, new int[] {0, 2, 2, 5}, 1, 4);
        fails(x, new int[] {0, 2, 3, 5}, 1, 2);
        fails(x, new int[] {1, 3, 3, 5}, 1, 8);
        fails(x, new int[] {1, 3, 2, 5}, 0, 1);
        fails(x, new int[] {1, 3, 4, 5}, 5, 16);
        sentence("In a slot that fails nothing is sent; what would be sent can be sent later.");
        fails(x, new int[] {0, 1, 8, 9}, 56953279, 100000000);
        fails(x, new int[] {0, 1, 3, 9}, 271, 1000);
    }

    private static void failingSlots() {
        sentence("`n`: the slot, 0 to 8");
        ChipSlots x = Check.boardOf(LONGEST, 10);
        fails(x, new int[] {2, 0, 8, 0}, 1, 1);
        fails(x, new int[] {2, 2, 8, 0}, 1, 1);
        fails(x, new int[] {2, 3, 8, 0}, 0, 1);
        fails(x, new int[] {2, 2, 8, 5}, 1, 256);
        fails(x, new int[] {2, 1, 8, 5}, 9, 256);
        fails(x, new int[] {2, 2, 7, 0}, 0, 1);
        fails(x, new int[] {9, 0, 8, 0}, 0, 1);
        fails(x, new int[] {0, 0, 0, 0}, 1, 1);
    }

    private static void failingTenths() {
        sentence("`x`: the tenths, 0 to 10");
        ChipSlots x = Check.boardOf("B21i0n10", 2);
        fails(x, new int[] {1, 1, 1, 0}, 1, 1);
        fails(x, new int[] {1, 1, 1, 1}, 9, 10);
        fails(x, new int[] {1, 1, 1, 9}, 1, 10);
        fails(x, new int[] {1, 1, 1, 10}, 0, 1);
        fails(x, new int[] {1, 1, 8, 10}, 0, 1);
        fails(x, new int[] {0, 0, 8, 10}, 1, 1);
        fails(x, new int[] {1, 0, 8, 0}, 0, 1);
        fails(x, new int[] {1, 1, 0, 10}, 0, 1);
        fails(x, new int[] {0, 0, 0, 10}, 1, 1);
    }

    private static void failErrors() {
        sentence("Returns that number; UNKNOWN if there is no such gate or chip; OUTSIDE if n or x is out of range.");
        for (int chips = 1; chips <= 4; chips++) {
            ChipSlots x = Check.boardOf("B" + chips + "1i0i" + (chips - 1), 2);
            due("22: the last gate on the last chip", x.fails(1, chips - 1, 8, 10, true), 1);
            for (boolean upper : new boolean[] {true, false}) {
                Check.beside("22: fails(.., 0, 0, 0)", 0, 1, UNKNOWN, g -> x.fails(g, 0, 0, 0, upper));
                Check.beside("22: fails(0, .., 0, 0)", 0, chips - 1, UNKNOWN, c -> x.fails(0, c, 0, 0, upper));
                Check.beside("22: fails(0, 0, .., 0)", 0, 8, OUTSIDE, n -> x.fails(0, 0, n, 0, upper));
                Check.beside("22: fails(0, 0, 0, ..)", 0, 10, OUTSIDE, t -> x.fails(0, 0, 0, t, upper));
                Check.beside("22: fails(2, 0, .., 11)", 0, 8, UNKNOWN, n -> x.fails(2, 0, n, 11, upper));
            }
        }
    }
}
