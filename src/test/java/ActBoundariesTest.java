/** STEPS, ACTS and promises 7 to 11, 25 and 26: a test for each sentence that names a boundary. */
public final class ActBoundariesTest {
    private static final int UNKNOWN = ChipSlots.UNKNOWN;
    private static final int OUTSIDE = ChipSlots.OUTSIDE;
    private static final int STATE = ChipSlots.STATE;
    private static final int HELD = 14;

    /** A register that changes in each step, and its not. */
    private static final String TOGGLE = "B11r010n00";

    private ActBoundariesTest() {
    }

    public static void main(String[] args) {
        allAtOnce();
        clocks();
        counting();
        acts();
        noActs();
        latestActs();
        ringOfActs();
        newActsAfterUndos();
        stepNumbers();
        stepIsOneAct();
        inputValues();
        inputErrors();
        moves();
        moveErrors();
        pinNumbers();
        undoRestores();
        undoLeaves();
        undoAnswers();
        keeps();
        keepsInPlace();
        keepErrors();
        restores();
        staysThere();
        noActsThen();
        againErrors();
        Check.finish();
    }

    private static void sentence(String words) {
        Check.sentence(words);
    }

    private static void due(String what, long got, long want) {
        Check.due(what, got, want);
    }

    // ---- STEPS

    private static void allAtOnce() {
        sentence("In a step, all registers whose clock ticks take the values that their sources had before the step, all at "
            + "once.");
        ChipSlots ring = Check.boardOf("B11r090r000r010r020r030r040r050r060r070r080", 10);
        due("a ring of ten zeros", ring.step(10) + ring.count(7), 10);
        ChipSlots chain = Check.boardOf("B11i0r000r010r020r030r040r050r060r070r080", 10);
        chain.input(0, 1);
        for (int n = 1; n <= 9; n++) {
            chain.step(1);
            due("one further register after " + n + " steps", chain.count(7), (2 << n) - 1);
        }
        ChipSlots back = Check.boardOf("B11r010r020i0", 3);
        back.input(2, 1);
        back.step(1);
        due("told backwards", back.count(7), 4 + 2);
        ChipSlots through = Check.boardOf("B11n02r000r010", 3);
        due("at first", through.count(7), 1);
        through.step(1);
        due("the value before the step", through.count(7), 1 + 2);
        through.step(1);
        due("and of the second step", through.count(7), 2 + 4);
        ChipSlots swap = Check.boardOf("B11r010r000i0", 3);
        swap.step(1);
        due("two registers of one another", swap.count(7) + swap.count(8), 0);
    }

    private static void clocks() {
        sentence("Clock 0 ticks in each step, clock 1 in the steps before which the count of steps is odd.");
        ChipSlots x = Check.boardOf("B11r020r031n00n01", 4);
        int[] want = {0, 1, 2, 3, 0, 1, 2, 3, 0};
        for (int count = 0; count < want.length; count++) {
            due("registers at count " + count, x.count(7) & 3, want[count]);
            x.step(1);
        }
        ChipSlots many = Check.boardOf("B11i0r001", 2);
        many.step(98);
        many.input(0, 1);
        many.step(1);
        due("the step before which the count is 98", many.count(7), 1);
        many.step(1);
        due("the step before which it is 99", many.count(7), 3);
    }

    private static void counting() {
        sentence("The count, 0 at first, increases by 1.");
        ChipSlots x = new ChipSlots();
        due("at first", x.count(4), 0);
        for (int n = 1; n <= 100; n++) {
            due("step", x.step(1), n);
            due("count", x.count(4), n);
        }
    }

    // ---- ACTS

    private static void acts() {
        sentence("step(), input(), lay() and pins() are acts, unless they return an error.");
        ChipSlots x = Check.boardOf("B21i0n10", 2);
        x.step(1);
        due("step", x.count(9), 1);
        x.input(0, 0);
        due("input, with the same value", x.count(9), 2);
        x.lay(0, 1);
        due("lay", x.count(9), 3);
        x.pins(1);
        due("pins, with the same number", x.count(9), 4);
        int errors = x.step(0) + x.step(100) + x.input(2, 0) + x.input(1, 0) + x.input(0, 3);
        errors += x.lay(2, 0) + x.lay(0, 2) + x.lay(0, 1) + x.pins(0) + x.pins(10);
        due("errors", errors, 5 * OUTSIDE + 3 * UNKNOWN + 2 * STATE);
        due("errors are no acts", x.count(9), 4);
        due("the same value is undone too", x.undo() + x.undo() + x.undo() + x.undo(), 3 + 2 + 1);
    }

    private static void noActs() {
        sentence("step(), input(), lay() and pins() are acts");
        ChipSlots x = Check.boardOf("B21i0n10", 2);
        x.input(0, 1);
        x.wipe();
        x.write('B');
        x.fault();
        x.board();
        x.see(0, 0, 1, 1);
        x.which();
        x.unsee();
        x.seed(9);
        x.drawn(20);
        x.keep(0);
        x.ahead(99, 1);
        x.round(0);
        x.judge(4, 101201301609L);
        x.slots(3);
        x.fewest(1);
        due("no other call is an act", x.count(9), 1);
        due("and none is undone", x.undo(), 0);
        due("but the input", x.gate(0, 5), 0);
    }

    private static void latestActs() {
        sentence("The latest 14 acts can be undone, the latest one first.");
        for (int acts = 0; acts <= 45; acts++) {
            ChipSlots x = new ChipSlots();
            for (int i = 0; i < acts; i++) {
                x.step(1);
            }
            int held = Math.min(acts, HELD);
            due("acts that can be undone after " + acts, x.count(9), held);
            for (int left = held - 1; left >= 0; left--) {
                due("undo", x.undo(), left);
                due("the latest one first", x.count(4), acts - held + left);
            }
            due("no more", x.undo(), STATE);
            due("the count stays", x.count(4), acts - held);
        }
    }

    /** Of 20 acts the first six are gone for good: undoing one does not bring an older one back. */
    private static void ringOfActs() {
        sentence("The latest 14 acts can be undone, the latest one first.");
        ChipSlots x = new ChipSlots();
        for (int i = 0; i < 20; i++) {
            x.step(1);
        }
        due("undo", x.undo(), 13);
        due("acts then", x.count(9), 13);
        x.pins(2);
        due("with a new one", x.count(9), 14);
        x.pins(3);
        due("with one more", x.count(9), 14);
        due("undo pins", x.undo(), 13);
        due("pins", x.count(3), 2);
        due("undo pins", x.undo(), 12);
        due("pins", x.count(3), 1);
        for (int left = 11; left >= 0; left--) {
            due("undo steps", x.undo(), left);
        }
        due("the oldest of 14", x.count(4), 7);
        due("no more", x.undo(), STATE);
    }

    private static void newActsAfterUndos() {
        sentence("The latest 14 acts can be undone, the latest one first.");
        ChipSlots x = new ChipSlots();
        int count = 0;
        int held = 0;
        for (int round = 0; round < 14; round++) {
            for (int i = 0; i < 7; i++) {
                x.step(1);
            }
            count += 7;
            held = Math.min(held + 7, HELD);
            for (int i = 0; i < round % 5; i++) {
                count--;
                held--;
                due("undo in round " + round, x.undo(), held);
                due("count in round " + round, x.count(4), count);
            }
            due("acts in round " + round, x.count(9), held);
        }
    }

    // ---- promises 7 to 10

    private static void stepNumbers() {
        sentence("`n`: the number of steps, 1 to 99");
        ChipSlots x = Check.boardOf(TOGGLE, 2);
        due("7: the fewest", x.step(1), 1);
        due("7: one change", x.count(7), 1);
        due("7: the most", x.step(99), 100);
        due("7: 99 more changes", x.count(7), 2);
        sentence("Returns the count of steps then; OUTSIDE if n is out of range.");
        due("7: the count", x.step(98), 198);
        due("7: an even number changes nothing", x.count(7), 2);
        Check.beside("7: step", 1, 99, OUTSIDE, x::step);
        due("7: the count stays", x.count(4), 198);
        due("7: the values stay", x.count(7), 2);
    }

    private static void stepIsOneAct() {
        sentence("Makes n steps. This is one act.");
        ChipSlots x = Check.boardOf(TOGGLE, 2);
        x.step(99);
        x.step(98);
        due("7: two acts", x.count(9), 2);
        due("7: all steps of one", x.undo(), 1);
        due("7: are undone", x.count(4), 99);
        due("7: and of the other", x.undo(), 0);
        due("7: are undone", x.count(4), 0);
    }

    private static void inputValues() {
        sentence("`v`: the value, 0 to 2");
        ChipSlots x = Check.boardOf("B11" + "i0".repeat(10), 10);
        due("8: 1", x.input(9, 1), 0);
        due("8: it is 1", x.gate(9, 5), 1);
        due("8: 2", x.input(9, 2), 1);
        due("8: it is 2", x.gate(9, 5), 2);
        due("8: 0", x.input(9, 0), 2);
        due("8: it is 0", x.gate(9, 5), 0);
        sentence("Returns the previous value; UNKNOWN if there is no such gate; STATE if it is not an input; OUTSIDE if v is "
            + "out of range.");
        int[] values = {0, 0, 1, 1, 2, 2, 0, 2, 1, 0};
        int before = 0;
        for (int v : values) {
            due("8: the previous value", x.input(0, v), before);
            before = v;
        }
    }

    private static void inputErrors() {
        sentence("Returns the previous value; UNKNOWN if there is no such gate; STATE if it is not an input; OUTSIDE if v is "
            + "out of range.");
        ChipSlots x = Check.boardOf("B11n05a055o055x055r050i0", 6);
        x.input(5, 2);
        Check.row("8: kind of gate", g -> x.input(g, 0), STATE, STATE, STATE, STATE, STATE, 2, UNKNOWN);
        Check.beside("8: input(.., 0)", 0, 5, UNKNOWN, g -> x.input(g, 0));
        Check.beside("8: input(5, ..)", 0, 2, OUTSIDE, v -> x.input(5, v));
        Check.beside("8: input(0, ..)", 0, 2, STATE, v -> x.input(0, v));
        Check.beside("8: input(6, ..)", 0, 2, UNKNOWN, v -> x.input(6, v));
        due("8: its value stays", x.gate(5, 5), 0);
    }

    private static void moves() {
        sentence("Moves a gate to another chip.");
        ChipSlots x = Check.boardOf("B41i0i1i2i3i0i1i2i3i0i1", 10);
        for (int g = 0; g < 10; g++) {
            int gate = g;
            int own = g % 4;
            int other = 3 - own;
            due("9: the chip on which it was", x.lay(gate, other), own);
            due("9: its chip", x.gate(gate, 1), other);
            due("9: and back", x.lay(gate, own), other);
        }
        Check.row("9: all are where they were", g -> x.gate(g, 1), 0, 1, 2, 3, 0, 1, 2, 3, 0, 1);
        due("9: two acts each, 14 can be undone", x.count(9), 14);
    }

    private static void moveErrors() {
        sentence("Returns the chip on which it was; UNKNOWN if there is no such gate or chip; STATE if it is on this chip "
            + "already.");
        for (int chips = 1; chips <= 4; chips++) {
            ChipSlots x = Check.boardOf("B" + chips + "1i0", 1);
            due("9: on it already", x.lay(0, 0), STATE);
            due("9: the last chip", x.lay(0, chips - 1), chips == 1 ? STATE : 0);
            due("9: on it already", x.lay(0, chips - 1), STATE);
            Check.beside("9: lay(0, ..)", 0, chips - 1, UNKNOWN, c -> x.lay(0, c));
            Check.beside("9: lay(.., 0)", 0, 0, UNKNOWN, g -> x.lay(g, 0));
            due("9: neither gate nor chip", x.lay(1, 4), UNKNOWN);
            due("9: its chip", x.gate(0, 1), chips - 1);
        }
    }

    private static void pinNumbers() {
        sentence("`v`: the number, 1 to 9");
        ChipSlots x = Check.boardOf("B25", 0);
        due("10: the most", x.pins(9), 5);
        due("10: the number", x.count(3), 9);
        due("10: the fewest", x.pins(1), 9);
        due("10: the number", x.count(3), 1);
        sentence("Returns the previous number; OUTSIDE if v is out of range.");
        due("10: the previous number", x.pins(4), 1);
        Check.beside("10: pins", 1, 9, OUTSIDE, x::pins);
        due("10: the number stays", x.pins(4), 4);
    }

    // ---- promise 11

    private static void undoRestores() {
        sentence("Undoes the latest act: values, chips of gates, pins and the count are as they were before it.");
        ChipSlots x = Check.boardOf("B45i0r100r211", 3);
        x.input(0, 2);
        x.step(2);
        x.input(0, 1);
        x.step(1);
        x.lay(2, 3);
        x.pins(6);
        x.step(1);
        due("11: ones", x.count(7), 1 + 2 + 4);
        x.undo();
        due("11: the register before the step", x.count(7), 1 + 2);
        due("11: the unknown before the step", x.count(8), 4);
        due("11: the count", x.count(4), 3);
        x.undo();
        due("11: pins", x.count(3), 5);
        x.undo();
        due("11: chip", x.gate(2, 1), 2);
        due("11: the count stays with pins and chip", x.count(4), 3);
        x.undo();
        due("11: unknowns", x.count(8), 2 + 4);
        due("11: ones", x.count(7), 1);
        x.undo();
        due("11: the input", x.gate(0, 5), 2);
        x.undo();
        due("11: clock 1 had not ticked", x.count(8), 1);
        x.undo();
        due("11: as at first", x.count(7) + x.count(8) + x.count(4), 0);
        x.input(0, 1);
        x.step(1);
        x.undo();
        x.step(1);
        due("11: clock 1 counts from the count that is back", x.count(7), 1 + 2);
    }

    private static void undoLeaves() {
        sentence("values, chips of gates, pins and the count are as they were before it");
        ChipSlots x = Check.boardOf("B11i0", 1);
        x.input(0, 1);
        x.write('i');
        x.see(0, 0, 1, 1);
        x.seed(7);
        x.keep(1);
        x.undo();
        due("11: the text is not undone", x.count(0), 6);
        due("11: nor the observations", x.count(10), 1);
        due("11: nor the seed", x.seed(7), 7);
        due("11: nor what is kept", x.again(1), 0);
        due("11: with its value", x.gate(0, 5), 1);
    }

    private static void undoAnswers() {
        sentence("Returns how many acts can still be undone; STATE if none can be undone.");
        ChipSlots x = new ChipSlots();
        due("11: none", x.undo(), STATE);
        x.step(1);
        due("11: the only one", x.undo(), 0);
        due("11: none again", x.undo(), STATE);
        due("11: and again", x.undo(), STATE);
        for (int i = 0; i < 15; i++) {
            x.pins(1 + i % 9);
        }
        due("11: the latest of 14", x.undo(), 13);
        due("11: as count tells", x.count(9), 13);
    }

    // ---- promises 25 and 26

    private static void keeps() {
        sentence("Keeps the values of inputs and registers, the chips of the gates, the pins and the count in a slot, in "
            + "place of what it has.");
        ChipSlots x = Check.boardOf("B47i3r201i1", 3);
        x.input(0, 1);
        x.input(2, 2);
        x.step(3);
        x.lay(1, 0);
        x.pins(9);
        due("25: keep", x.keep(1), 3);
        due("25: acts stay", x.count(9), 5);
        x.input(0, 0);
        x.input(2, 1);
        x.step(97);
        x.lay(1, 3);
        x.lay(0, 0);
        x.pins(2);
        x.write('i');
        x.seed(5);
        x.see(0, 0, 0, 0);
        due("26: the count", x.again(1), 3);
        due("26: ones", x.count(7), 1 + 2);
        due("26: unknowns", x.count(8), 4);
        Check.row("26: chip of gate", g -> x.gate(g, 1), 3, 0, 1);
        due("26: pins", x.count(3), 9);
        due("26: count", x.count(4), 3);
        due("26: the text is not kept", x.count(0), 12);
        due("26: nor the seed", x.seed(0), 5);
        due("26: nor the observations", x.count(10), 1);
        x.input(0, 0);
        x.step(1);
        due("26: clock 1 ticks at the count that is back", x.count(7), 0);
    }

    private static void keepsInPlace() {
        sentence("in place of what it has");
        ChipSlots x = Check.boardOf("B11i0", 1);
        for (int n = 1; n <= 20; n++) {
            x.step(1);
            due("25: in turn", x.keep(n % 2), n);
        }
        due("26: the latest in slot 0", x.again(0), 20);
        due("26: the latest in slot 1", x.again(1), 19);
    }

    private static void keepErrors() {
        sentence("Returns the count of steps; UNKNOWN if there is no such slot.");
        ChipSlots x = new ChipSlots();
        due("25: slot 0", x.keep(0), 0);
        x.step(99);
        due("25: slot 1", x.keep(1), 99);
        x.step(1);
        Check.beside("25: keep", 0, 1, UNKNOWN, x::keep);
        due("25: slot 0 stays", x.again(0), 0);
        due("25: slot 1 stays", x.again(1), 99);
    }

    private static void restores() {
        sentence("`slot`: the slot, 0 or 1");
        ChipSlots x = Check.boardOf("B21i0", 1);
        x.keep(0);
        x.input(0, 1);
        x.keep(1);
        x.input(0, 2);
        due("26: slot 0", x.again(0) + x.gate(0, 5), 0);
        due("26: slot 1", x.again(1) + x.gate(0, 5), 1);
        due("26: slot 0 once more", x.again(0) + x.gate(0, 5), 0);
    }

    private static void staysThere() {
        sentence("Restores what a slot has; it stays there.");
        ChipSlots x = Check.boardOf("B11i0", 1);
        x.step(5);
        x.keep(0);
        for (int i = 0; i < 4; i++) {
            due("26: again", x.again(0), 5);
            x.input(0, 1);
            x.step(1);
            x.undo();
        }
        due("26: with its value", x.again(0) + x.gate(0, 5), 5);
        due("26: the other is empty", x.again(1), STATE);
    }

    private static void noActsThen() {
        sentence("No act can be undone then.");
        ChipSlots x = Check.boardOf("B11i0", 1);
        for (int i = 0; i < 16; i++) {
            x.step(1);
        }
        x.keep(0);
        due("26: before", x.count(9), 14);
        x.again(0);
        due("26: after", x.count(9), 0);
        due("26: nothing to undo", x.undo(), STATE);
        due("26: the count stays", x.count(4), 16);
        x.input(0, 1);
        due("26: a new act", x.count(9), 1);
        due("26: is undone", x.undo(), 0);
        due("26: and no more", x.undo(), STATE);
    }

    private static void againErrors() {
        sentence("Returns the count of steps then; UNKNOWN if there is no such slot; STATE if the slot is empty.");
        ChipSlots x = Check.boardOf("B11i0", 1);
        x.input(0, 1);
        Check.row("26: empty slot", x::again, STATE, STATE, UNKNOWN);
        Check.beside("26: again", 0, 1, UNKNOWN, x::again);
        due("26: acts stay after errors", x.count(9), 1);
        x.step(2);
        x.keep(1);
        Check.row("26: one is empty", x::again, STATE, 2, UNKNOWN);
        Check.beside("26: again", 0, 1, UNKNOWN, x::again);
        x.board();
        Check.row("26: empty with a new board", x::again, STATE, STATE, UNKNOWN);
        due("25: keep", x.keep(0), 0);
        Check.row("26: the other is empty", x::again, 0, STATE, UNKNOWN);
    }
}
