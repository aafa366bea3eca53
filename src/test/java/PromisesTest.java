/** For each promise of the document: ordinary inputs, the edges that it names, and wrong inputs. */
public final class PromisesTest {
    private static final int UNKNOWN = ChipSlots.UNKNOWN;
    private static final int OUTSIDE = ChipSlots.OUTSIDE;
    private static final int STATE = ChipSlots.STATE;
    private static final int FULL = ChipSlots.FULL;
    private static final int NONE = ChipSlots.NONE;
    private static final int LEAST = Integer.MIN_VALUE;
    private static final int MOST = Integer.MAX_VALUE;

    /** An input, a not of it on the other chip, and a register of that with clock 1. */
    private static final String SMALL = "B21i0n10r111";
    /** Three inputs on chip 0 for an and and a not on chip 1, over one pin. */
    private static final String CROWDED = "B21i0i0i0a101n12";
    /** A chain of three registers behind an input. */
    private static final String CHAIN = "B11i0r000r010r020";

    private PromisesTest() {
    }

    public static void main(String[] args) {
        newObject();
        writing();
        wiping();
        faults();
        boards();
        boardsInTurn();
        gates();
        values();
        loops();
        steps();
        inputs();
        lays();
        pinNumbers();
        undos();
        aheads();
        rounds();
        longRounds();
        whens();
        slotNumbers();
        moves();
        fewestPins();
        judgements();
        wrongJudgements();
        sightings();
        unsights();
        stuckGates();
        stuckInLoops();
        shares();
        failings();
        seeds();
        draws();
        keeping();
        counts();
        Check.finish();
    }

    private static void due(String what, long got, long want) {
        Check.due(what, got, want);
    }

    private static void newObject() {
        due("UNKNOWN", UNKNOWN, -1);
        due("OUTSIDE", OUTSIDE, -2);
        due("STATE", STATE, -3);
        due("FULL", FULL, -4);
        due("NONE", NONE, -9);
        ChipSlots x = new ChipSlots();
        int[] numbers = {0, 1, 0, 1, 0, 0, 0, 0, 0, 0, 0};
        for (int i = 0; i < numbers.length; i++) {
            due("1: new count(" + i + ")", x.count(i), numbers[i]);
        }
        due("1: new seed", x.seed(3), 0);
        due("1: new again(0)", x.again(0), STATE);
        due("1: new again(1)", x.again(1), STATE);
        due("1: new undo", x.undo(), STATE);
        due("1: new which", x.which(), 0);
        due("1: two objects", new ChipSlots().seed(0), 0);
    }

    private static void writing() {
        ChipSlots x = new ChipSlots();
        for (int bad : new int[] {-1, 256, LEAST, MOST}) {
            due("2: write(" + bad + ")", x.write(bad), OUTSIDE);
        }
        due("2: length after errors", x.count(0), 0);
        due("2: write(0)", x.write(0), 1);
        due("2: write(255)", x.write(255), 2);
        for (int i = 3; i <= 90; i++) {
            due("2: write", x.write('B'), i);
        }
        due("2: write when full", x.write('B'), FULL);
        due("2: outside when full", x.write(256), OUTSIDE);
        due("2: length when full", x.count(0), 90);
        x.wipe();
        due("2: write after wipe", x.write('B'), 1);
    }

    private static void wiping() {
        ChipSlots x = Check.boardOf(SMALL, 3);
        due("3: wipe", x.wipe(), SMALL.length());
        due("3: wipe again", x.wipe(), 0);
        due("3: length", x.count(0), 0);
        due("3: the board stays", x.count(2), 3);
        due("3: nothing is left of the text", x.fault(), 0);
    }

    private static void faults() {
        String ten = "B11i0i0i0i0i0i0i0i0i0i0";
        String longest = "B11" + "a000".repeat(10);
        String[] boards = {"B11", "B49", "B21i1", "B11n00", "B11n01i0", "B11a000", "B11r000", "B11r001", ten, longest,
            "B11n09" + "i0".repeat(9), "B11" + "i0".repeat(9) + "n09", "B43x301o210a100n01r201i3"};
        for (String text : boards) {
            fault(text, NONE);
        }
        fault("", 0);
        fault("b11", 0);
        fault("B", 1);
        fault("B0", 1);
        fault("B5", 1);
        fault("BB", 1);
        fault("B1", 2);
        fault("B10", 2);
        fault("B1:", 2);
        fault("B1/", 2);
        fault("B11 ", 3);
        fault("B11B", 3);
        fault("B111", 3);
        fault("B11I0", 3);
        fault("B11i", 4);
        fault("B11i1", 4);
        fault("B21i2", 4);
        fault("B41i4", 4);
        fault("B11i/", 4);
        fault("B11n", 4);
        fault("B11n0", 5);
        fault("B11n0:", 5);
        fault("B11n0/", 5);
        fault("B11n01", 6);
        fault("B11n01n", 7);
        fault("B11n05?", 6);
        fault("B11n0i", 5);
        fault("B11n000", 6);
        fault("B11a00", 6);
        fault("B11a00x", 6);
        fault("B11o001", 7);
        fault("B11o010", 7);
        fault("B11x00", 6);
        fault("B11r00", 6);
        fault("B11r002", 6);
        fault("B11r00/", 6);
        fault("B11r010", 7);
        fault("B11r0i", 5);
        fault(ten + "i", 23);
        fault(ten + "i0", 23);
        fault("B11" + "i0".repeat(8) + "n09", 22);
        fault(longest + "i", 43);
        fault("B11i0" + (char) 233, 5);
        fault("B" + (char) 0, 1);
        fault(longest + "a".repeat(47), 43);
    }

    private static void fault(String text, int want) {
        ChipSlots x = new ChipSlots();
        Check.writeAll(x, text);
        due("4: fault() of " + text, x.fault(), want);
        due("4: once more of " + text, x.fault(), want);
        due("4: the text stays " + text, x.count(0), text.length());
        due("4: the board stays " + text, x.count(2), 0);
    }

    private static void boards() {
        ChipSlots x = Check.boardOf("B32i2i1", 2);
        due("5: chips", x.count(1), 3);
        due("5: pins", x.count(3), 2);
        due("5: the text stays", x.count(0), 7);
        x.input(0, 1);
        x.step(3);
        x.keep(0);
        x.see(0, 1, 0, 1);
        x.seed(77);
        x.write('i');
        due("5: faulty text", x.board(), STATE);
        due("5: value after error", x.count(7), 1);
        due("5: count after error", x.count(4), 3);
        due("5: acts after error", x.count(9), 2);
        due("5: kept after error", x.again(0), 3);
        x.pins(9);
        x.lay(0, 0);
        x.write('0');
        due("5: board", x.board(), 3);
        due("5: values are 0", x.count(7) | x.count(8), 0);
        due("5: the count is 0", x.count(4), 0);
        due("5: pins are told anew", x.count(3), 2);
        due("5: chips are told anew", x.gate(0, 1), 2);
        due("5: nothing to undo", x.undo(), STATE);
        due("5: nothing kept", x.again(0), STATE);
        due("5: observations stay", x.count(10), 1);
        due("5: the seed stays", x.seed(0), 77);
        due("5: board once more", x.board(), 3);
        Check.writeAll(x, "B11");
        due("5: board without gates", x.board(), 0);
        due("5: one chip", x.count(1), 1);
    }

    private static void boardsInTurn() {
        ChipSlots x = Check.boardOf("B43i0i1i2i3", 4);
        x.input(1, 2);
        x.lay(0, 3);
        Check.writeAll(x, "B11r001r010r021q");
        due("5: a fault does not touch the board", x.fault(), 15);
        due("5: nor does a board that fails", x.board(), STATE);
        due("5: inputs", x.count(5), 15);
        due("5: chips", x.count(1), 4);
        due("5: chip of a gate", x.gate(0, 1), 3);
        due("5: kind of a gate", x.gate(2, 0), 0);
        due("5: unknown input", x.count(8), 2);
        Check.writeAll(x, "B11r011r001n01i0");
        due("5: registers", x.board(), 4);
        due("5: unknowns are gone", x.count(8), 0);
        due("5: inputs after it", x.count(5), 8);
        due("5: registers after it", x.count(6), 3);
        Check.writeAll(x, "B21i0i1r120r000");
        due("5: once more", x.board(), 4);
        due("5: no readers are left", x.gate(1, 6), 0);
        due("5: readers", x.gate(2, 6), 4);
        due("5: readers of the first", x.gate(0, 6), 8);
        due("5: inputs once more", x.count(5), 3);
        due("5: registers once more", x.count(6), 12);
        x.input(0, 1);
        x.step(1);
        due("5: clocks are told anew", x.count(7), 1 + 8);
        due("5: pins once more", x.count(3), 1);
        Check.writeAll(x, "B11i0r000i0");
        due("5: the fourth", x.board(), 3);
        due("5: an input reads nothing", x.gate(1, 6), 0);
        x.input(0, 1);
        x.step(1);
        due("5: clock 0 after clock 1", x.count(7), 3);
        Check.writeAll(x, "B11i0i0i0");
        due("5: the fifth", x.board(), 3);
        due("5: no reader is left of a longer board", x.gate(0, 6), 0);
    }

    private static void gates() {
        ChipSlots x = Check.boardOf("B41i0n10a201o301x001r111r230", 7);
        int[][] want = {
            {0, 0, NONE, NONE, NONE}, {1, 1, 0, NONE, NONE}, {2, 2, 0, 1, NONE}, {3, 3, 0, 1, NONE},
            {4, 0, 0, 1, NONE}, {5, 1, 1, NONE, 1}, {5, 2, 3, NONE, 0}};
        for (int g = 0; g < want.length; g++) {
            for (int what = 0; what < 5; what++) {
                due("6: gate(" + g + ", " + what + ")", x.gate(g, what), want[g][what]);
            }
        }
        due("6: readers of 0", x.gate(0, 6), 2 + 4 + 8 + 16);
        due("6: readers of 1", x.gate(1, 6), 4 + 8 + 16 + 32);
        due("6: readers of 3", x.gate(3, 6), 64);
        due("6: readers of 6", x.gate(6, 6), 0);
        for (int bad : new int[] {-1, 7, LEAST, MOST}) {
            due("6: gate(0, " + bad + ")", x.gate(0, bad), OUTSIDE);
            due("6: gate(" + bad + ", 0)", x.gate(bad, 0), UNKNOWN);
            due("6: gate(" + bad + ", 9)", x.gate(bad, 9), UNKNOWN);
        }
        ChipSlots own = Check.boardOf("B11r000a011", 2);
        due("6: its own reader", own.gate(0, 6), 1);
        due("6: twice the same source", own.gate(1, 6), 2);
        due("6: same first source", own.gate(1, 2), 1);
        due("6: same second source", own.gate(1, 3), 1);
    }

    private static void values() {
        ChipSlots x = Check.boardOf("B11i0i0n00a001o001x001", 6);
        int[] not = {1, 0, 2};
        int[][] and = {{0, 0, 0}, {0, 1, 2}, {0, 2, 2}};
        int[][] or = {{0, 1, 2}, {1, 1, 1}, {2, 1, 2}};
        int[][] xor = {{0, 1, 2}, {1, 0, 2}, {2, 2, 2}};
        for (int a = 0; a < 3; a++) {
            for (int b = 0; b < 3; b++) {
                x.input(0, a);
                x.input(1, b);
                String of = " of " + a + " and " + b;
                due("6: input" + of, x.gate(0, 5), a);
                due("6: not" + of, x.gate(2, 5), not[a]);
                due("6: and" + of, x.gate(3, 5), and[a][b]);
                due("6: or" + of, x.gate(4, 5), or[a][b]);
                due("6: xor" + of, x.gate(5, 5), xor[a][b]);
            }
        }
        ChipSlots back = Check.boardOf("B11n01n02n03n04i0", 5);
        due("6: a chain told backwards", back.count(7), 2 + 8);
        ChipSlots late = Check.boardOf("B11a013n02i0o022", 4);
        late.input(2, 0);
        due("6: gates told before their sources, 0", late.count(7), 2);
        late.input(2, 1);
        due("6: gates told before their sources, 1", late.count(7), 4 + 8);
    }

    private static void loops() {
        ChipSlots x = Check.boardOf("B11a001i0o002a021r010a041", 6);
        // gate 0 is its own source; gates 2 and 3 are behind it; the register cuts the loop.
        due("6: unknown in spite of a 0", x.gate(0, 5), 2);
        x.input(1, 1);
        due("6: unknown in spite of a 1", x.gate(2, 5), 2);
        x.input(1, 0);
        due("6: unknown behind a loop", x.gate(3, 5), 2);
        due("6: the set of unknowns", x.count(8), 1 + 4 + 8);
        ChipSlots through = Check.boardOf("B11a011r000o011", 3);
        due("6: a loop through a register is none", through.count(8), 0);
        ChipSlots behind = Check.boardOf("B11n00r000i0a012", 4);
        behind.step(1);
        due("6: the register is unknown", behind.gate(1, 5), 2);
        due("6: a 0 counts behind a register", behind.gate(3, 5), 0);
        ChipSlots ring = Check.boardOf("B11n02n00n01i0a033", 5);
        due("6: a ring of three", ring.count(8), 7);
    }

    private static void steps() {
        ChipSlots x = Check.boardOf("B11r010r020i0", 3);
        x.input(2, 1);
        for (int bad : new int[] {0, 100, -1, LEAST, MOST}) {
            due("7: step(" + bad + ")", x.step(bad), OUTSIDE);
        }
        due("7: errors are no acts", x.count(9), 1);
        due("7: first step", x.step(1), 1);
        due("7: all at once", x.count(7), 4 + 2);
        due("7: second step", x.step(1), 2);
        due("7: then the next one", x.count(7), 7);
        due("7: many steps", x.step(99), 101);
        due("7: one act", x.count(9), 4);
        x.undo();
        due("7: all undone at once", x.count(4), 2);
        ChipSlots slow = Check.boardOf("B11i0r001r000", 3);
        slow.input(0, 1);
        due("7: even count", slow.step(1), 1);
        due("7: clock 1 does not tick", slow.count(7), 1 + 4);
        slow.input(0, 0);
        slow.step(1);
        due("7: clock 1 ticks with the value before", slow.count(7), 0);
        slow.input(0, 1);
        slow.step(2);
        due("7: clock 1 ticks when the count is odd", slow.count(7), 7);
        ChipSlots both = Check.boardOf("B11i0r001r001", 3);
        both.input(0, 1);
        both.step(1);
        due("7: no clock 1 ticks", both.count(7), 1);
        both.step(1);
        due("7: both clocks 1 tick", both.count(7), 7);
        ChipSlots unknown = Check.boardOf(CHAIN, 4);
        unknown.input(0, 2);
        unknown.step(2);
        due("7: registers take unknowns", unknown.count(8), 7);
    }

    private static void inputs() {
        ChipSlots x = Check.boardOf(SMALL, 3);
        due("8: input(0, 1)", x.input(0, 1), 0);
        due("8: input(0, 2)", x.input(0, 2), 1);
        due("8: the same value", x.input(0, 2), 2);
        due("8: is an act too", x.count(9), 3);
        due("8: its value", x.gate(0, 5), 2);
        due("8: input(3, 1)", x.input(3, 1), UNKNOWN);
        due("8: input(-1, 9)", x.input(-1, 9), UNKNOWN);
        due("8: not an input", x.input(1, 1), STATE);
        due("8: a register", x.input(2, 1), STATE);
        due("8: state before outside", x.input(1, 3), STATE);
        for (int bad : new int[] {3, -1, LEAST, MOST}) {
            due("8: input(0, " + bad + ")", x.input(0, bad), OUTSIDE);
        }
        due("8: errors are no acts", x.count(9), 3);
        due("8: errors change nothing", x.gate(0, 5), 2);
    }

    private static void lays() {
        ChipSlots x = Check.boardOf("B31i0n10", 2);
        due("9: lay(1, 2)", x.lay(1, 2), 1);
        due("9: its chip", x.gate(1, 1), 2);
        due("9: the other stays", x.gate(0, 1), 0);
        due("9: lay(1, 0)", x.lay(1, 0), 2);
        due("9: on it already", x.lay(1, 0), STATE);
        due("9: no such gate", x.lay(2, 0), UNKNOWN);
        due("9: no gate below 0", x.lay(-1, 0), UNKNOWN);
        due("9: no such chip", x.lay(1, 3), UNKNOWN);
        due("9: no chip below 0", x.lay(1, -1), UNKNOWN);
        due("9: extremes", x.lay(LEAST, MOST), UNKNOWN);
        due("9: acts", x.count(9), 2);
    }

    private static void pinNumbers() {
        ChipSlots x = Check.boardOf("B34i0", 1);
        due("10: pins(9)", x.pins(9), 4);
        due("10: pins(1)", x.pins(1), 9);
        due("10: the same", x.pins(1), 1);
        for (int bad : new int[] {0, 10, -1, LEAST, MOST}) {
            due("10: pins(" + bad + ")", x.pins(bad), OUTSIDE);
        }
        due("10: acts", x.count(9), 3);
        due("10: number", x.count(3), 1);
    }

    private static void undos() {
        ChipSlots x = Check.boardOf("B22i0r100", 2);
        due("11: nothing to undo", x.undo(), STATE);
        x.input(0, 1);
        x.lay(1, 0);
        x.pins(5);
        x.step(3);
        x.input(0, 2);
        due("11: undo input", x.undo(), 4);
        due("11: value", x.gate(0, 5), 1);
        due("11: undo step", x.undo(), 3);
        due("11: count", x.count(4), 0);
        due("11: register", x.gate(1, 5), 0);
        due("11: pins before", x.count(3), 5);
        due("11: undo pins", x.undo(), 2);
        due("11: pins", x.count(3), 2);
        due("11: undo lay", x.undo(), 1);
        due("11: chip", x.gate(1, 1), 1);
        due("11: undo input", x.undo(), 0);
        due("11: first value", x.gate(0, 5), 0);
        due("11: no more", x.undo(), STATE);
        unknownsComeBack();
        for (int i = 1; i <= 20; i++) {
            x.step(1);
            due("11: at most 14", x.count(9), Math.min(i, 14));
        }
        for (int i = 13; i >= 0; i--) {
            due("11: back", x.undo(), i);
            due("11: count back", x.count(4), 6 + i);
        }
        due("11: the oldest acts stay", x.undo(), STATE);
        due("11: count stays", x.count(4), 6);
        for (int i = 0; i < 15; i++) {
            x.step(2);
        }
        x.undo();
        x.undo();
        x.pins(9);
        due("11: acts after undos", x.count(9), 13);
        due("11: undo the new act", x.undo(), 12);
        due("11: pins again", x.count(3), 2);
        due("11: count again", x.count(4), 32);
    }

    private static void unknownsComeBack() {
        ChipSlots x = Check.boardOf("B11i0i0r010", 3);
        x.input(1, 2);
        x.step(1);
        x.keep(1);
        x.input(1, 1);
        x.step(1);
        x.input(1, 0);
        x.undo();
        due("11: no unknown comes back", x.count(8), 0);
        due("11: but the ones", x.count(7), 6);
        x.undo();
        x.undo();
        due("11: unknowns come back", x.count(8), 6);
        x.input(1, 0);
        x.step(1);
        due("26: count", x.again(1), 1);
        due("26: unknowns", x.count(8), 6);
        due("26: ones", x.count(7), 0);
    }

    private static void aheads() {
        ChipSlots x = Check.boardOf(CHAIN, 4);
        x.input(0, 1);
        due("12: now", x.ahead(0, 3), 0);
        due("12: of an input", x.ahead(0, 0), 1);
        due("12: too early", x.ahead(2, 3), 0);
        due("12: in time", x.ahead(3, 3), 1);
        due("12: late", x.ahead(99, 3), 1);
        due("12: nothing changes", x.count(7), 1);
        due("12: nor the count", x.count(4), 0);
        due("12: no act", x.count(9), 1);
        due("12: too far", x.ahead(100, 0), OUTSIDE);
        due("12: below 0", x.ahead(-1, 0), OUTSIDE);
        due("12: outside first", x.ahead(100, 9), OUTSIDE);
        due("12: no such gate", x.ahead(99, 4), UNKNOWN);
        due("12: no gate below 0", x.ahead(0, LEAST), UNKNOWN);
        ChipSlots slow = Check.boardOf("B11i0r001", 2);
        slow.input(0, 1);
        due("12: clock 1", slow.ahead(1, 1), 0);
        slow.pins(1);
        slow.step(1);
        due("12: clock 1 at an odd count", slow.ahead(1, 1), 1);
        due("12: once more", slow.ahead(1, 1), 1);
        due("12: and now", slow.ahead(0, 1), 0);
    }

    private static void rounds() {
        ChipSlots x = Check.boardOf(CHAIN, 4);
        due("13: still, n", x.round(0), 0);
        due("13: still, m is even", x.round(1), 2);
        x.input(0, 1);
        due("13: settles, n", x.round(0), 3);
        due("13: settles, m", x.round(1), 2);
        due("13: nothing changes", x.count(4), 0);
        for (int bad : new int[] {2, -1, LEAST, MOST}) {
            due("13: round(" + bad + ")", x.round(bad), OUTSIDE);
        }
        ChipSlots toggle = Check.boardOf("B11n01r000", 2);
        due("13: toggles, n", toggle.round(0), 0);
        due("13: toggles, m", toggle.round(1), 2);
        ChipSlots slow = Check.boardOf("B11n01r001", 2);
        due("13: toggles slowly, n", slow.round(0), 0);
        due("13: toggles slowly, m", slow.round(1), 4);
        ChipSlots unknown = Check.boardOf("B11i0r000x021r020", 4);
        unknown.input(0, 2);
        due("13: gets unknown, n", unknown.round(0), 1);
        due("13: gets unknown, m", unknown.round(1), 2);
    }

    private static void longRounds() {
        ChipSlots four = Check.boardOf("B11r050r000r010r020x032n04", 6);
        due("13: 15 states, n", four.round(0), 0);
        due("13: 15 states, m is twice as long", four.round(1), 30);
        ChipSlots five = Check.boardOf("B11r060r000r010r020r030x042n05", 7);
        due("13: 31 states, n", five.round(0), NONE);
        due("13: 31 states, m", five.round(1), NONE);
        due("13: outside in spite of none", five.round(2), OUTSIDE);
        five.step(31);
        due("13: back after 31 steps", five.count(7), 64);
        ChipSlots sixty = Check.boardOf("B11r050r000r010r020x032n04n07r061", 8);
        due("13: the longest period, n", sixty.round(0), 0);
        due("13: the longest period, m", sixty.round(1), 60);
        ChipSlots late = Check.boardOf("B11r041r091r081r001r021r061r011a015x007n03", 10);
        due("13: the latest beginning, n", late.round(0), 60);
        due("13: the latest beginning, m", late.round(1), 6);
        late.step(1);
        due("13: one step nearer", late.round(0), 59);
        ChipSlots later = Check.boardOf("B11r091r021r001r011r051r031r081n06n04o057", 10);
        due("13: too late", later.round(0), NONE);
        later.step(1);
        due("13: still too late", later.round(1), NONE);
        later.step(1);
        due("13: in time", later.round(0), 60);
    }

    private static void whens() {
        ChipSlots x = Check.boardOf("B41i0n30", 2);
        for (int c = 0; c < 4; c++) {
            due("14: chip by chip", x.when(0, c), c);
            due("14: of the not", x.when(1, c), c == 3 ? 3 : NONE);
        }
        due("14: no such gate", x.when(2, 0), UNKNOWN);
        due("14: no gate below 0", x.when(-1, 0), UNKNOWN);
        due("14: no such chip", x.when(0, 4), UNKNOWN);
        due("14: no chip below 0", x.when(0, -1), UNKNOWN);
        due("14: extremes", x.when(MOST, LEAST), UNKNOWN);
        ChipSlots y = Check.boardOf(CROWDED, 5);
        int[] one = {1, 2, 3, 2, 3};
        int[] two = {1, 1, 2, 1, 2};
        for (int g = 0; g < 5; g++) {
            due("14: one pin, gate " + g, y.when(g, 1), one[g]);
        }
        y.pins(2);
        for (int g = 0; g < 5; g++) {
            due("14: two pins, gate " + g, y.when(g, 1), two[g]);
        }
        ChipSlots loop = Check.boardOf("B21n00n10r010", 3);
        due("14: in a loop never", loop.when(0, 0), NONE);
        due("14: behind a loop never", loop.when(1, 1), NONE);
        due("14: a register always", loop.when(2, 0), 0);
        ChipSlots same = Check.boardOf("B11n01n02i0", 3);
        due("14: told later, same slot", same.when(0, 0), 0);
        ChipSlots back = Check.boardOf("B31i1n00n20r111", 4);
        due("14: to both sides, left", back.when(0, 0), 1);
        due("14: to both sides, right", back.when(0, 2), 1);
        due("14: back again", back.when(1, 1), 2);
        due("14: not beyond", back.when(1, 2), NONE);
    }

    private static void slotNumbers() {
        ChipSlots x = Check.boardOf(CROWDED, 5);
        slotNumbers("one pin", x, 4, 3, 2);
        x.pins(2);
        slotNumbers("two pins", x, 3, 3, 2);
        x.pins(3);
        slotNumbers("three pins", x, 2, 3, 2);
        for (int bad : new int[] {4, -1, LEAST, MOST}) {
            due("15: slots(" + bad + ")", x.slots(bad), OUTSIDE);
        }
        slotNumbers("nothing sent", Check.boardOf(CHAIN, 4), 1, 0, NONE);
        slotNumbers("both directions", Check.boardOf("B21i0i1n10n01", 4), 2, 2, 1);
        slotNumbers("far", Check.boardOf("B41i0n30", 2), 4, 3, 0);
        slotNumbers("a loop sends nothing", Check.boardOf("B21n00n10", 2), 1, 0, NONE);
        slotNumbers("one value for several readers", Check.boardOf("B21i0n10n10a100", 4), 2, 1, 0);
        slotNumbers("there and back", Check.boardOf("B21i0n10n01n12", 4), 4, 3, 2);
        slotNumbers("the greatest gate", Check.boardOf("B21n19i1i1i1i1i1i1i1i1i0", 10), 2, 1, 9);
        ChipSlots joined = Check.boardOf("B21i0i0n11", 3);
        slotNumbers("apart", joined, 2, 1, 1);
        joined.lay(2, 0);
        slotNumbers("together", joined, 1, 0, NONE);
        slotNumbers("the last slot alone counts", Check.boardOf("B31i0i0n11n20", 4), 3, 3, 1);
    }

    private static void slotNumbers(String what, ChipSlots x, int taken, int sent, int last) {
        due("15: slots(0), " + what, x.slots(0), taken);
        due("15: slots(1), " + what, x.slots(1), sent);
        due("15: slots(2), " + what, x.slots(2), last);
    }

    private static void moves() {
        due("15: no chip to move to", Check.boardOf(CHAIN, 4).slots(3), 100);
        due("15: nothing is better", Check.boardOf("B21i0n00", 2).slots(3), 100);
        due("15: the lowest gate", Check.boardOf("B21i0n10", 2).slots(3), 1);
        ChipSlots x = Check.boardOf(CROWDED, 5);
        due("15: the and to the inputs", x.slots(3), 30);
        due("15: nothing changes", x.gate(3, 1), 1);
        due("15: no act", x.count(9), 0);
        x.lay(3, 0);
        due("15: then the input to the not", x.slots(3), 21);
        x.lay(2, 1);
        due("15: then no move", x.slots(3), 100);
        // Both inputs are read on both chips: no move saves a slot, but gate 2 needs no sending.
        due("15: fewer values, same slots", Check.boardOf("B22i0i0n10n11n00n01", 6).slots(3), 20);
        due("15: gate 0 to chip 0", Check.boardOf("B21i1n00", 2).slots(3), 0);
        due("15: the lowest chip", Check.boardOf("B31i2n00n10", 3).slots(3), 0);
        due("15: to both sides at once", Check.boardOf("B41i0n30n10n20", 4).slots(3), 2);
    }

    private static void fewestPins() {
        ChipSlots x = Check.boardOf(CROWDED, 5);
        x.pins(9);
        due("16: in 1 slot", x.fewest(1), NONE);
        due("16: in 2 slots", x.fewest(2), 3);
        due("16: in 3 slots", x.fewest(3), 2);
        due("16: in 4 slots", x.fewest(4), 1);
        due("16: in 99 slots", x.fewest(99), 1);
        for (int bad : new int[] {0, 100, -1, LEAST, MOST}) {
            due("16: fewest(" + bad + ")", x.fewest(bad), OUTSIDE);
        }
        due("16: the pins stay", x.count(3), 9);
        due("16: nothing to send", Check.boardOf(CHAIN, 4).fewest(1), 1);
        ChipSlots nine = Check.boardOf("B21i0i0i0i0i0i0i0i0i0i1", 10);
        due("16: no readers", nine.fewest(1), 1);
    }

    private static void judgements() {
        ChipSlots x = Check.boardOf(CHAIN, 4);
        judge(x, 4, 201101411410L, 3);
        judge(x, 4, 201101411420L, NONE);
        judge(x, 3, 201103431L, NONE);
        judge(x, 3, 201102431L, 2);
        judge(x, 1, 501, NONE);
        judge(x, 1, 502, 0);
        judge(x, 2, 609501, NONE);
        due("17: nothing changes", x.count(7) + x.count(4) + x.count(9), 0);
        due("17: pins stay", x.count(3), 1);
        ChipSlots y = Check.boardOf(CROWDED, 5);
        judge(y, 4, 504602503504L, 3);
        judge(y, 4, 603502330501L, 3);
        judge(y, 4, 603502330502L, NONE);
        judge(y, 4, 330340501330L, 3);
        judge(y, 4, 202221200202L, NONE);
        judge(y, 3, 202402432L, 2);
        judge(y, 4, 201212432430L, 3);
        y.input(0, 2);
        judge(y, 2, 402430, NONE);
        y.pins(2);
        judge(y, 1, 503, NONE);
        y.pins(3);
        judge(y, 1, 502, NONE);
        y.lay(3, 0);
        judge(y, 2, 331502, NONE);
        judge(y, 3, 601331504, NONE);
        judge(y, 1, 330, 0);
        ChipSlots slow = Check.boardOf("B11i0r001", 2);
        slow.input(0, 1);
        judge(slow, 2, 101411, 1);
        slow.step(1);
        judge(slow, 2, 101411, NONE);
        judge(slow, 2, 199411, NONE);
    }

    private static void wrongJudgements() {
        ChipSlots x = Check.boardOf("B21i0n10r111", 3);
        int[] wrong = {0, 1, 99, 100, 203, 209, 210, 220, 230, 290, 300, 311, 302, 312, 330, 390, 403, 409, 401,
            430, 490, 500, 501, 503, 599, 600, 610, 611, 690, 701, 800, 999};
        for (int statement : wrong) {
            judge(x, 1, statement, 0);
            judge(x, 2, 101000 + statement, 1);
            judge(x, 2, 1000L * statement + 101, 0);
        }
        int[] right = {101, 130, 199, 200, 201, 202, 301, 310, 320, 400, 411, 420, 502, 601, 609};
        for (int statement : right) {
            judge(x, 1, statement, NONE);
        }
        judge(x, 0, 0, OUTSIDE);
        judge(x, 5, 0, OUTSIDE);
        judge(x, -1, 0, OUTSIDE);
        judge(x, LEAST, 101, OUTSIDE);
        judge(x, MOST, 101, OUTSIDE);
        judge(x, 1, -1, OUTSIDE);
        judge(x, 4, -1, OUTSIDE);
        judge(x, 4, Long.MIN_VALUE, OUTSIDE);
        judge(x, 4, Long.MAX_VALUE, OUTSIDE);
        judge(x, 1, 999, 0);
        judge(x, 1, 1000, OUTSIDE);
        judge(x, 2, 999999, 0);
        judge(x, 2, 1000000, OUTSIDE);
        judge(x, 3, 999999999L, 0);
        judge(x, 3, 1000000000L, OUTSIDE);
        judge(x, 4, 999999999999L, 0);
        judge(x, 4, 1000000000000L, OUTSIDE);
        judge(x, 4, 101101101000L, 3);
    }

    private static void judge(ChipSlots x, int n, long row, int want) {
        due("17: judge(" + n + ", " + row + ")", x.judge(n, row), want);
    }

    private static void sightings() {
        ChipSlots x = Check.boardOf(SMALL, 3);
        due("18: first", x.see(0, 0, 0, 0), 1);
        due("18: last values", x.see(9, 2, 2, 1), 2);
        due("18: no such gate", x.see(0, 3, 0, 0), UNKNOWN);
        due("18: no gate below 0", x.see(10, -1, 0, 0), UNKNOWN);
        int[][] bad = {{10, 0, 0}, {-1, 0, 0}, {0, 3, 0}, {0, -1, 0}, {0, 0, 2}, {0, 0, -1}, {LEAST, 0, 0}, {0, MOST, 0}};
        for (int[] b : bad) {
            due("18: outside", x.see(b[0], 0, b[1], b[2]), OUTSIDE);
        }
        due("18: number", x.count(10), 2);
        for (int i = 3; i <= 6; i++) {
            due("18: more", x.see(1, 1, 1, 1), i);
        }
        due("18: full", x.see(1, 1, 1, 1), FULL);
        due("18: outside before full", x.see(10, 1, 1, 1), OUTSIDE);
        due("18: unknown before full", x.see(10, 3, 1, 1), UNKNOWN);
        due("18: still six", x.count(10), 6);
        due("18: no acts", x.count(9), 0);
        x.board();
        due("18: they stay with another board", x.count(10), 6);
    }

    private static void unsights() {
        ChipSlots x = Check.boardOf(SMALL, 3);
        due("19: none", x.unsee(), 0);
        x.see(0, 0, 1, 1);
        x.see(0, 0, 1, 1);
        due("19: which before", x.which(), 0);
        due("19: two", x.unsee(), 2);
        due("19: none again", x.unsee(), 0);
        due("19: number", x.count(10), 0);
        due("19: which after", x.which(), 7);
        due("19: see again", x.see(0, 0, 0, 1), 1);
    }

    private static void stuckGates() {
        ChipSlots x = Check.boardOf("B11i0n00r010", 3);
        due("20: without observations", x.which(), 7);
        x.input(0, 1);
        x.see(0, 1, 1, 1);
        due("20: the input is stuck", x.which(), 1);
        x.see(1, 2, 1, 1);
        due("20: and one step later", x.which(), 1);
        due("20: nothing changes", x.count(4) + x.count(8), 0);
        x.unsee();
        x.see(0, 1, 0, 0);
        due("20: it has not this value", x.which(), 1);
        x.unsee();
        x.input(0, 0);
        x.see(1, 2, 0, 1);
        due("20: the not or the register", x.which(), 2 + 4);
        x.see(0, 1, 0, 0);
        due("20: the register alone", x.which(), 4);
        x.unsee();
        x.step(1);
        x.see(0, 2, 0, 1);
        due("20: its stored value does not matter", x.which(), 4);
        x.unsee();
        x.see(9, 2, 1, 1);
        due("20: after nine steps", x.which(), 1);
        x.unsee();
        x.input(0, 2);
        x.see(0, 0, 2, 0);
        due("20: stuck is not unknown", x.which(), 1);
        Check.writeAll(x, "B11");
        x.board();
        due("20: no gates", x.which(), 0);
        ChipSlots y = Check.boardOf("B11i0i0i0", 3);
        y.see(0, 2, 1, 1);
        due("20: the third is never 1", y.which(), 0);
        Check.writeAll(y, "B11i0i0");
        y.board();
        due("20: it does not exist any more", y.which(), 3);
        ChipSlots slow = Check.boardOf("B11i0r001", 2);
        slow.input(0, 1);
        slow.see(1, 1, 1, 1);
        due("20: clock 1 has not ticked", slow.which(), 0);
        slow.see(1, 0, 1, 0);
        slow.unsee();
        slow.see(2, 1, 0, 1);
        due("20: clock 1 has ticked", slow.which(), 3);
        slow.step(1);
        slow.unsee();
        slow.see(1, 1, 0, 0);
        due("20: counted from the present state", slow.which(), 0);
    }

    private static void stuckInLoops() {
        ChipSlots x = Check.boardOf("B11n01n00", 2);
        x.see(0, 1, 1, 1);
        due("20: computed from the 0 in the loop", x.which(), 1);
        x.unsee();
        x.see(0, 0, 0, 1);
        due("20: its own value is 0", x.which(), 1);
        ChipSlots two = Check.boardOf("B11n01n00n02a022", 4);
        two.see(0, 3, 2, 1);
        due("20: another loop stays unknown", two.which(), 1 + 2);
        two.unsee();
        two.see(0, 2, 2, 0);
        two.see(0, 3, 0, 1);
        due("20: its own source", two.which(), 4);
    }

    private static void shares() {
        ChipSlots x = Check.boardOf("B41i0i1i2i3a001a023a045", 7);
        share(x, 0, 25, 12);
        share(x, 1, 7, 4);
        share(x, 2, 19, 12);
        share(x, 3, 19, 12);
        for (int bad : new int[] {4, -1, LEAST, MOST}) {
            due("21: share(" + bad + ", true)", x.share(bad, true), UNKNOWN);
            due("21: share(" + bad + ", false)", x.share(bad, false), UNKNOWN);
        }
        ChipSlots y = Check.boardOf("B21i0n10", 2);
        share(y, 0, 3, 2);
        share(y, 1, 1, 2);
        y.lay(1, 0);
        share(y, 0, 2, 1);
        share(y, 1, 0, 1);
        ChipSlots ring = Check.boardOf("B31r110r000n22", 3);
        share(ring, 0, 1, 1);
        share(ring, 1, 1, 1);
        share(ring, 2, 1, 1);
        share(new ChipSlots(), 0, 0, 1);
        ChipSlots far = Check.boardOf("B31r100i2n02r020", 4);
        far.step(3);
        share(far, 2, 1, 1);
    }

    private static void share(ChipSlots x, int chip, int upper, int lower) {
        due("21: share(" + chip + ", true)", x.share(chip, true), upper);
        due("21: share(" + chip + ", false)", x.share(chip, false), lower);
    }

    private static void failings() {
        ChipSlots x = Check.boardOf("B41i0n30", 2);
        fails(x, 1, 3, 3, 5, 1, 8);
        fails(x, 1, 3, 4, 5, 5, 16);
        fails(x, 1, 3, 3, 0, 1, 1);
        fails(x, 1, 3, 2, 0, 0, 1);
        fails(x, 1, 3, 8, 10, 0, 1);
        fails(x, 0, 0, 8, 10, 1, 1);
        fails(x, 0, 0, 0, 0, 1, 1);
        fails(x, 0, 0, 0, 10, 1, 1);
        fails(x, 0, 1, 0, 0, 0, 1);
        fails(x, 0, 1, 1, 3, 7, 10);
        fails(x, 0, 1, 2, 3, 91, 100);
        fails(x, 1, 3, 8, 1, 99997659, 100000000);
        fails(x, 1, 0, 8, 0, 0, 1);
        int[][] unknown = {{2, 0}, {-1, 0}, {0, 4}, {0, -1}, {LEAST, MOST}};
        for (int[] u : unknown) {
            due("22: unknown", x.fails(u[0], u[1], 9, 11, true), UNKNOWN);
            due("22: unknown", x.fails(u[0], u[1], 0, 0, false), UNKNOWN);
        }
        int[][] outside = {{9, 0}, {-1, 0}, {0, 11}, {0, -1}, {LEAST, 0}, {0, MOST}};
        for (int[] o : outside) {
            due("22: outside", x.fails(0, 0, o[0], o[1], true), OUTSIDE);
            due("22: outside", x.fails(0, 0, o[0], o[1], false), OUTSIDE);
        }
        ChipSlots y = Check.boardOf(CROWDED, 5);
        fails(y, 3, 1, 2, 2, 16, 25);
        fails(y, 4, 1, 2, 2, 0, 1);
        y.pins(9);
        fails(y, 4, 1, 2, 2, 24, 25);
    }

    private static void fails(ChipSlots x, int gate, int chip, int n, int tenths, int upper, int lower) {
        String call = "22: fails(" + gate + ", " + chip + ", " + n + ", " + tenths + ")";
        due(call + " upper", x.fails(gate, chip, n, tenths, true), upper);
        due(call + " lower", x.fails(gate, chip, n, tenths, false), lower);
    }

    private static void seeds() {
        ChipSlots x = new ChipSlots();
        due("23: at first", x.seed(Long.MIN_VALUE), 0);
        due("23: the previous one", x.seed(Long.MAX_VALUE), Long.MIN_VALUE);
        due("23: and again", x.seed(-1), Long.MAX_VALUE);
        due("23: no act", x.count(9), 0);
        due("23: and again", x.seed(0), -1);
    }

    private static void draws() {
        ChipSlots x = Check.boardOf("B11i0r000i0r020r010", 5);
        for (long start = -50; start < 50; start++) {
            long seed = start * 1234567891011L;
            x.seed(seed);
            int sum = 0;
            int before = 0;
            for (int i = 0; i < 20; i++) {
                seed = seed * 6364136223846793005L + 1442695040888963407L;
                int v = (int) (seed >>> 33);
                sum += (v & 1) + (v >> 1 & 1) + before;
                before = v & 1;
            }
            due("24: drawn(20)", x.drawn(20), sum);
            due("24: seed after it", x.seed(0), seed);
        }
        x.seed(5);
        for (int bad : new int[] {0, 21, -1, LEAST, MOST}) {
            due("24: drawn(" + bad + ")", x.drawn(bad), OUTSIDE);
        }
        due("24: the seed stays after errors", x.seed(5), 5);
        x.drawn(1);
        due("24: one step", x.seed(0), 5 * 6364136223846793005L + 1442695040888963407L);
        due("24: the state stays", x.count(7) + x.count(4) + x.count(9), 0);
        ChipSlots still = Check.boardOf("B11n01r000", 2);
        due("24: without inputs", still.drawn(19), 10);
        due("24: from the present state", still.step(1) + still.drawn(19), 1 + 9);
        due("24: clock 1", Check.boardOf("B11n01r001", 2).drawn(4), 2);
    }

    private static void keeping() {
        ChipSlots x = Check.boardOf("B22i0r100", 2);
        due("25: keep(0)", x.keep(0), 0);
        due("26: slot 1 is empty", x.again(1), STATE);
        x.input(0, 1);
        x.lay(1, 0);
        x.pins(7);
        x.step(5);
        due("25: keep(1)", x.keep(1), 5);
        due("25: no act", x.count(9), 4);
        for (int bad : new int[] {2, -1, LEAST, MOST}) {
            due("25: keep(" + bad + ")", x.keep(bad), UNKNOWN);
            due("26: again(" + bad + ")", x.again(bad), UNKNOWN);
        }
        due("26: again(0)", x.again(0), 0);
        due("26: values", x.count(7), 0);
        due("26: chip", x.gate(1, 1), 1);
        due("26: pins", x.count(3), 2);
        due("26: no act can be undone", x.undo(), STATE);
        due("26: again(1)", x.again(1), 5);
        due("26: values", x.count(7), 3);
        due("26: chip", x.gate(1, 1), 0);
        due("26: pins", x.count(3), 7);
        due("26: count", x.count(4), 5);
        x.step(1);
        due("26: it stays there", x.again(1), 5);
        x.step(2);
        due("25: in place of what it has", x.keep(1), 7);
        x.undo();
        due("26: undo does not change it", x.again(1), 7);
        due("26: the other slot stays", x.again(0), 0);
        x.board();
        due("26: empty with a new board", x.again(1), STATE);
        ChipSlots fresh = new ChipSlots();
        fresh.step(4);
        due("25: without gates", fresh.keep(1), 4);
        due("26: without gates", fresh.again(1), 4);
    }

    private static void counts() {
        ChipSlots x = Check.boardOf("B35i0i1n00r220n24i2", 6);
        x.input(1, 1);
        x.input(5, 2);
        x.step(1);
        x.step(1);
        x.see(0, 0, 0, 0);
        int[] want = {19, 3, 6, 5, 2, 1 + 2 + 32, 8, 2 + 4 + 8, 16 + 32, 4, 1};
        for (int i = 0; i < want.length; i++) {
            due("27: count(" + i + ")", x.count(i), want[i]);
        }
        for (int bad : new int[] {11, -1, LEAST, MOST}) {
            due("27: count(" + bad + ")", x.count(bad), OUTSIDE);
        }
    }
}
