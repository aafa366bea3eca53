/** THE BOARD and promises 1 to 6: a test for each sentence that names a boundary. */
public final class BoardBoundariesTest {
    private static final int UNKNOWN = ChipSlots.UNKNOWN;
    private static final int OUTSIDE = ChipSlots.OUTSIDE;
    private static final int STATE = ChipSlots.STATE;
    private static final int FULL = ChipSlots.FULL;
    private static final int NONE = ChipSlots.NONE;
    private static final String DIGITS = "0123456789";
    private static final String KINDS = "inaoxr";
    private static final String TEN_INPUTS = "B11" + "i0".repeat(10);
    private static final String LONGEST = "B49" + "x389".repeat(10);

    private BoardBoundariesTest() {
    }

    public static void main(String[] args) {
        chips();
        pins();
        numberOfGates();
        kinds();
        sameSources();
        valueNumbers();
        firstValues();
        unknownSources();
        loops();
        blanks();
        grammar();
        digits();
        order();
        laterSources();
        newObject();
        newObjectElse();
        letters();
        lengths();
        wiping();
        firstFault();
        earlyEnds();
        untoldSources();
        noFault();
        boardBegins();
        boardsInTurn();
        boardLeaves();
        boardAnswers();
        noSources();
        clocks();
        readers();
        properties();
        Check.finish();
    }

    private static void sentence(String words) {
        Check.sentence(words);
    }

    private static void due(String what, long got, long want) {
        Check.due(what, got, want);
    }

    private static int faultOf(String text) {
        ChipSlots x = new ChipSlots();
        Check.writeAll(x, text);
        return x.fault();
    }

    // ---- THE BOARD

    private static void chips() {
        sentence("There are 1 to 4 chips in a line, 1 at first; chips k and k + 1 are neighbors.");
        due("chips at first", new ChipSlots().count(1), 1);
        for (int chips = 1; chips <= 4; chips++) {
            due("chips", Check.boardOf("B" + chips + "1", 0).count(1), chips);
        }
        due("no chips", faultOf("B01"), 1);
        due("five chips", faultOf("B51"), 1);
        ChipSlots x = Check.boardOf("B41i0n10n20n30", 4);
        Check.row("slots to chip", c -> x.when(0, c), 0, 1, 2, 3);
        ChipSlots ends = Check.boardOf("B41i3n20n10n00", 4);
        Check.row("slots to chip", c -> ends.when(0, c), 3, 2, 1, 0);
    }

    private static void pins() {
        sentence("There are 1 to 9 pins, 1 at first.");
        due("pins at first", new ChipSlots().count(3), 1);
        for (int pins = 1; pins <= 9; pins++) {
            due("pins", Check.boardOf("B1" + pins, 0).count(3), pins);
        }
        due("no pins", faultOf("B10"), 2);
        due("ten pins", faultOf("B1:"), 2);
    }

    private static void numberOfGates() {
        sentence("There are at most 10 gates; at first there are none.");
        due("gates at first", new ChipSlots().count(2), 0);
        for (int gates = 0; gates <= 10; gates++) {
            due("gates", Check.boardOf("B11" + "i0".repeat(gates), gates).count(2), gates);
        }
        due("eleven gates", faultOf("B11" + "i0".repeat(11)), 23);
    }

    private static void kinds() {
        sentence("A gate is on a chip and of a kind: 0 input 1 not, of one source 2 and, 3 or, 4 xor, of two sources "
            + "5 register, of one source, with a clock, 0 or 1");
        ChipSlots x = Check.boardOf("B11i0n00a001o001x001r001", 6);
        Check.row("kind of gate", g -> x.gate(g, 0), 0, 1, 2, 3, 4, 5);
        Check.row("first source of gate", g -> x.gate(g, 2), NONE, 0, 0, 0, 0, 0);
        Check.row("second source of gate", g -> x.gate(g, 3), NONE, NONE, 1, 1, 1, NONE);
        Check.row("clock of gate", g -> x.gate(g, 4), NONE, NONE, NONE, NONE, NONE, 1);
    }

    private static void sameSources() {
        sentence("The sources of a gate are gates; two sources can be the same gate, and a gate can be its own source.");
        ChipSlots x = Check.boardOf("B11i0a000o000x000", 4);
        x.input(0, 1);
        Check.row("value of 1", g -> x.gate(g, 5), 1, 1, 1, 0);
        x.input(0, 2);
        due("all of 2 are 2", x.count(8), 15);
        x.input(0, 0);
        due("all of 0 are 0", x.count(7) + x.count(8), 0);
        ChipSlots own = Check.boardOf("B11n00a011o022x033r040", 5);
        Check.row("reads itself", g -> own.gate(g, 6), 1, 2, 4, 8, 16);
        due("its own register stays", own.step(7) + own.count(8), 7 + 15);
    }

    private static void valueNumbers() {
        sentence("A gate has a value: 0, 1, or 2 (unknown).");
        ChipSlots x = Check.boardOf("B11i0r000", 2);
        for (int v = 0; v <= 2; v++) {
            x.input(0, v);
            x.step(1);
            due("an input with " + v, x.gate(0, 5), v);
            due("a register with " + v, x.gate(1, 5), v);
            due("the ones with " + v, x.count(7), v == 1 ? 3 : 0);
            due("the unknowns with " + v, x.count(8), v == 2 ? 3 : 0);
        }
        due("no value 3", x.input(0, 3), OUTSIDE);
        due("no value -1", x.input(0, -1), OUTSIDE);
    }

    private static void firstValues() {
        sentence("The values of inputs and registers are stored, and are 0 at first.");
        ChipSlots x = Check.boardOf("B11i0n00r010r020", 4);
        due("at first only the not is 1", x.count(7), 2);
        due("nothing is unknown", x.count(8), 0);
        due("a register keeps its value though its source has another one", x.gate(2, 5), 0);
    }

    private static void unknownSources() {
        sentence("The value of another gate is computed from the values of its sources: if one of the sources is 2, it is 2, "
            + "except that and is 0 if a source is 0, and or is 1 if a source is 1.");
        ChipSlots x = Check.boardOf("B11i0i0n00a001o001x001", 6);
        int[][] want = {{0, 2, 1, 0, 2, 2}, {2, 0, 2, 0, 2, 2}, {1, 2, 0, 2, 1, 2}, {2, 1, 2, 2, 1, 2}, {2, 2, 2, 2, 2, 2}};
        for (int[] row : want) {
            x.input(0, row[0]);
            x.input(1, row[1]);
            Check.row("with " + row[0] + " and " + row[1] + ", gate", g -> x.gate(g, 5), row);
        }
    }

    private static void loops() {
        sentence("But it is 2 in any case if the gate is in a loop of not, and, or and xor gates, or if one of its sources is "
            + "a not, and, or or xor gate for which this holds (directly or through further such gates).");
        due("a not of itself", Check.boardOf("B11n00", 1).count(8), 1);
        due("an and with a 0", Check.boardOf("B11a001i0", 2).count(8), 1);
        ChipSlots or = Check.boardOf("B11o001i0", 2);
        or.input(1, 1);
        due("an or with a 1", or.count(8), 1);
        due("an xor of itself twice", Check.boardOf("B11x000", 1).count(8), 1);
        due("a loop of all four kinds", Check.boardOf("B11n03a004o014x024i0", 5).count(8), 15);
        due("a loop of ten", Check.boardOf("B11n09n00n01n02n03n04n05n06n07n08", 10).count(8), 1023);
        due("behind it, with a 0", Check.boardOf("B11n00i0a001", 3).count(8), 1 + 4);
        due("through eight further gates", Check.boardOf("B11n00n00n01n02n03n04n05n06n07i0", 10).count(8), 511);
        due("and told before it", Check.boardOf("B11a012n01i0", 3).count(8), 1 + 2);
        due("before a loop nothing is unknown", Check.boardOf("B11i0n00a021", 3).count(8), 4);
        due("a register cuts the loop", Check.boardOf("B11n01r000", 2).count(8), 0);
        ChipSlots behind = Check.boardOf("B11n00r000i0a012o012", 5);
        behind.step(1);
        due("behind a register a 0 counts", behind.count(8), 1 + 2 + 16);
        behind.input(2, 1);
        due("behind a register a 1 counts", behind.count(8), 1 + 2 + 8);
    }

    private static void blanks() {
        sentence("A board is described by a text of at most 90 characters, without blanks, with the grammar");
        String board = "B21i1n10a101r111";
        due("without blanks", faultOf(board), NONE);
        for (int i = 0; i <= board.length(); i++) {
            due("a blank before letter " + i, faultOf(board.substring(0, i) + " " + board.substring(i)), i);
            due("a line end before letter " + i, faultOf(board.substring(0, i) + "\n" + board.substring(i)), i);
        }
    }

    private static void grammar() {
        sentence("board = \"B\" chips pins { gate } gate = \"i\" chip | \"n\" chip source | ( \"a\" | \"o\" | \"x\" ) chip source "
            + "source | \"r\" chip source clock");
        fits("", "B", "");
        fits("B11", KINDS, "");
        fits("B11i0", KINDS, "");
        fits("B11n00", KINDS, "");
        fits("B11a000", KINDS, "");
        fits("B11o000", KINDS, "");
        fits("B11x000", KINDS, "");
        fits("B11r000", KINDS, "");
        fits("B11r090", KINDS, "");
    }

    private static void digits() {
        sentence("where chips is a digit from 1 to 4, pins a digit from 1 to 9, chip a digit less than chips, source a digit, "
            + "clock 0 or 1; i is an input, n not, a and, o or, x xor, and r a register.");
        fits("B", "1234", "");
        fits("B1", "123456789", "123456789");
        fits("B4", "123456789", "123456789");
        for (int chips = 1; chips <= 4; chips++) {
            String less = DIGITS.substring(0, chips);
            fits("B" + chips + "9i", less, less);
            for (char kind : "naoxr".toCharArray()) {
                fits("B" + chips + "1" + kind, less, "");
            }
        }
        fits("B11n0", DIGITS, "0");
        for (char kind : "aox".toCharArray()) {
            fits("B11" + kind + "0", DIGITS, "");
            fits("B11" + kind + "00", DIGITS, "0");
            fits("B11" + kind + "01", DIGITS, "");
            fits("B11i0" + kind + "01", DIGITS, "01");
        }
        fits("B11r0", DIGITS, "");
        fits("B11r00", "01", "01");
        fits("B11r09", "01", "");
    }

    /** Tries every letter behind a text: those that can stand there, and those that make a board. */
    private static void fits(String before, String allowed, String whole) {
        for (char letter = 0; letter < 256; letter++) {
            int want = before.length();
            if (allowed.indexOf(letter) >= 0) {
                want = whole.indexOf(letter) >= 0 ? NONE : before.length() + 1;
            }
            due("fault() of " + before + " and letter " + (int) letter, faultOf(before + letter), want);
        }
    }

    private static void order() {
        sentence("The gates are numbered in the order in which they are told; there are at most 10.");
        ChipSlots x = Check.boardOf("B41r390x289o189a089n39i2r181x088o389a289", 10);
        Check.row("kind of gate", g -> x.gate(g, 0), 5, 4, 3, 2, 1, 0, 5, 4, 3, 2);
        Check.row("chip of gate", g -> x.gate(g, 1), 3, 2, 1, 0, 3, 2, 1, 0, 3, 2);
        fits("B11" + "i0".repeat(9), KINDS, "");
        fits(TEN_INPUTS, "", "");
        for (String tenth : new String[] {"n09", "a098", "o098", "x098", "r091"}) {
            fits("B11" + "i0".repeat(9) + tenth, "", "");
        }
    }

    private static void laterSources() {
        sentence("A source can be a gate that is told later, but it must be told somewhere.");
        for (int last = 0; last <= 9; last++) {
            String others = "i0".repeat(last);
            due("the last gate", faultOf("B11n0" + last + others), NONE);
            due("its own number", faultOf("B11" + others + "n0" + last), NONE);
            if (last < 9) {
                due("the gate after the last", faultOf("B11n0" + (last + 1) + others), 6 + 2 * last);
                due("the gate after itself", faultOf("B11" + others + "n0" + (last + 1)), 6 + 2 * last);
                due("the first source", faultOf("B11" + others + "a0" + (last + 1) + "0"), 7 + 2 * last);
                due("the second source", faultOf("B11" + others + "x00" + (last + 1)), 7 + 2 * last);
                due("a register's source", faultOf("B11" + others + "r0" + (last + 1) + "0"), 7 + 2 * last);
            }
        }
    }

    // ---- promises 1 to 3

    private static void newObject() {
        sentence("Creates a board with one chip and one pin, without gates.");
        ChipSlots x = new ChipSlots();
        due("1: chips", x.count(1), 1);
        due("1: pins", x.count(3), 1);
        due("1: gates", x.count(2), 0);
        due("1: no gate 0", x.gate(0, 0), UNKNOWN);
        due("1: chip 0", x.share(0, true), 0);
        due("1: no chip 1", x.share(1, true), UNKNOWN);
        due("1: one slot", x.slots(0), 1);
        due("1: nothing is sent", x.slots(1), 0);
        due("1: no last gate", x.slots(2), NONE);
        due("1: no move", x.slots(3), 100);
        due("1: one pin is enough", x.fewest(1), 1);
        due("1: a period", x.round(0), 0);
        due("1: of two steps", x.round(1), 2);
        due("1: no sets", x.count(5) | x.count(6) | x.count(7) | x.count(8) | x.which(), 0);
        due("1: it can make steps", x.step(99), 99);
        due("1: and other pins", x.pins(9), 1);
        due("1: and draw", x.drawn(20), 0);
        due("1: and judge", x.judge(4, 101501601501L), NONE);
    }

    private static void newObjectElse() {
        sentence("The text is empty, there are no observations, the seed is 0, and nothing is kept.");
        ChipSlots x = new ChipSlots();
        due("1: length", x.count(0), 0);
        due("1: fault at its end", x.fault(), 0);
        due("1: observations", x.count(10), 0);
        due("1: nothing in slot 0", x.again(0), STATE);
        due("1: nothing in slot 1", x.again(1), STATE);
        due("1: no acts", x.count(9), 0);
        due("1: seed", x.seed(1), 0);
        due("1: nothing to unsee", x.unsee(), 0);
        due("1: nothing to wipe", x.wipe(), 0);
    }

    private static void letters() {
        sentence("`letter`: its code, 0 to 255");
        ChipSlots x = new ChipSlots();
        due("2: the first code", x.write(0), 1);
        due("2: the last code", x.write(255), 2);
        sentence("OUTSIDE if letter is out of range");
        Check.beside("2: write", 0, 255, OUTSIDE, x::write);
        due("2: length", x.count(0), 2);
        due("2: a code beyond 255 is no B", new ChipSlots().write(256 + 'B'), OUTSIDE);
        due("2: nor is one below 0", new ChipSlots().write('B' - 256), OUTSIDE);
    }

    private static void lengths() {
        sentence("Appends a character to the text.");
        ChipSlots x = new ChipSlots();
        Check.writeAll(x, LONGEST);
        due("2: the longest board", x.fault(), NONE);
        sentence("Returns the new length of the text");
        ChipSlots y = new ChipSlots();
        for (int length = 1; length <= 90; length++) {
            due("2: length", y.write(length == 1 ? 'B' : '1'), length);
        }
        sentence("FULL if it has 90 characters.");
        due("2: the 91st", y.write('1'), FULL);
        due("2: is not there", y.count(0), 90);
        due("2: and not at the beginning", y.fault(), 3);
        y.wipe();
        due("2: room again", y.write('B'), 1);
    }

    private static void wiping() {
        sentence("Empties the text.");
        ChipSlots x = new ChipSlots();
        Check.writeAll(x, "B11i0".repeat(18));
        due("3: a full text", x.wipe(), 90);
        due("3: is empty", x.count(0), 0);
        due("3: its fault is at 0", x.fault(), 0);
        Check.writeAll(x, "B11");
        due("3: nothing comes back behind a new text", x.fault(), NONE);
        due("3: nor in the board", x.board(), 0);
        sentence("Returns the length that it had.");
        due("3: three", x.wipe(), 3);
        due("3: none", x.wipe(), 0);
        x.write(0);
        due("3: one", x.wipe(), 1);
    }

    // ---- promises 4 and 5

    private static void firstFault() {
        sentence("Returns the index of the first character that cannot stand there in a board, given the characters before "
            + "it (whatever the limit of 90 characters)");
        due("4: the first letter", faultOf("b11"), 0);
        due("4: the first of two faults", faultOf("B51z"), 1);
        due("4: before an untold source", faultOf("B11n09z"), 6);
        due("4: behind the longest board", faultOf(LONGEST + "x"), 43);
        due("4: in a full text", faultOf(LONGEST + "x".repeat(47)), 43);
        due("4: the last letter of a gate", faultOf("B11i0r002"), 8);
        due("4: chip 3 of three", faultOf("B31i3"), 4);
        due("4: what a board has can stand twice", faultOf("B11B11"), 3);
    }

    private static void earlyEnds() {
        sentence("the length of the text if it ends too early");
        due("4: the empty text", faultOf(""), 0);
        String text = Scenes.BOARD;
        String ends = " 3 5 7 10 14 18 22 26 30 33 37 ";
        for (int length = 0; length <= text.length(); length++) {
            int want = ends.contains(" " + length + " ") ? NONE : length;
            due("4: the first " + length + " letters of " + text, faultOf(text.substring(0, length)), want);
        }
    }

    private static void untoldSources() {
        sentence("also if a source is not told anywhere");
        String text = "B11n09" + "i0".repeat(9);
        for (int length = 4; length < text.length(); length++) {
            due("4: the first " + length + " letters of " + text, faultOf(text.substring(0, length)), length);
        }
        due("4: all of it", faultOf(text), NONE);
    }

    private static void noFault() {
        sentence("NONE if it is a board.");
        due("4: the shortest board", faultOf("B11"), NONE);
        due("4: the longest board", faultOf(LONGEST), NONE);
        due("4: ten inputs", faultOf(TEN_INPUTS), NONE);
    }

    private static void boardBegins() {
        sentence("Makes a new board by the text, in place of the present one.");
        ChipSlots x = Scenes.busy();
        Check.boardOn(x, "B32i2r001", 2);
        due("5: chips", x.count(1), 3);
        due("5: pins", x.count(3), 2);
        due("5: chip of the input", x.gate(0, 1), 2);
        due("5: chip of the register", x.gate(1, 1), 0);
        due("5: no third gate", x.gate(2, 0), UNKNOWN);
        due("5: no fourth chip", x.lay(0, 3), UNKNOWN);
        sentence("Inputs and registers have the value 0, the count is 0, no act can be undone, and nothing is kept.");
        due("5: no ones", x.count(7), 0);
        due("5: no unknowns", x.count(8), 0);
        due("5: the count", x.count(4), 0);
        due("5: no acts", x.count(9), 0);
        due("5: nothing to undo", x.undo(), STATE);
        due("5: nothing in slot 0", x.again(0), STATE);
        due("5: nothing in slot 1", x.again(1), STATE);
        x.input(0, 1);
        x.step(1);
        due("5: clock 1 does not tick in the first step", x.count(7), 1);
    }

    private static void boardsInTurn() {
        sentence("in place of the present one");
        String[] texts = {"B11", "B43i3i2", TEN_INPUTS, "B29r111r100n13x002", "B12r010i0", Scenes.BOARD};
        for (String first : texts) {
            for (String second : texts) {
                for (String third : texts) {
                    ChipSlots x = new ChipSlots();
                    for (String text : new String[] {first, second, third}) {
                        Check.writeAll(x, text);
                        x.board();
                    }
                    ChipSlots fresh = new ChipSlots();
                    Check.writeAll(fresh, third);
                    fresh.board();
                    String name = "5: " + third + " after " + first + " and " + second;
                    Check.isTrue(name, Scenes.everything(x).equals(Scenes.everything(fresh)));
                    due(name + ", a step of ones", onesAfterStep(x), onesAfterStep(fresh));
                }
            }
        }
    }

    private static int onesAfterStep(ChipSlots x) {
        for (int g = 0; g < x.count(2); g++) {
            x.input(g, 1);
        }
        x.step(1);
        return x.count(7);
    }

    private static void boardLeaves() {
        sentence("The text, the observations and the seed stay.");
        ChipSlots x = Check.boardOf("B11i0i0", 2);
        x.see(0, 1, 1, 1);
        x.see(0, 0, 2, 1);
        x.seed(Long.MIN_VALUE);
        due("5: the same text once more", x.board(), 2);
        due("5: its length", x.count(0), 7);
        due("5: observations", x.count(10), 2);
        due("5: seed", x.seed(0), Long.MIN_VALUE);
        x.input(1, 1);
        x.input(0, 2);
        due("5: the observations are the same", x.which(), 0);
        x.write('i');
        x.write('0');
        due("5: a longer text", x.board(), 3);
        x.input(1, 1);
        x.input(0, 2);
        due("5: with a further gate that can be stuck", x.which(), 4);
    }

    private static void boardAnswers() {
        sentence("Returns the number of gates; STATE if the text has a fault.");
        ChipSlots x = new ChipSlots();
        due("5: the empty text", x.board(), STATE);
        Check.writeAll(x, "B11");
        due("5: no gates", x.board(), 0);
        due("5: the same once more", x.board(), 0);
        for (int gates = 1; gates <= 10; gates++) {
            x.write('i');
            due("5: ends too early", x.board(), STATE);
            x.write('0');
            due("5: gates", x.board(), gates);
        }
        x.write('i');
        due("5: an eleventh gate", x.board(), STATE);
        due("5: the ten gates stay", x.count(2), 10);
        Check.writeAll(x, "B11n01");
        due("5: a source that is not told", x.board(), STATE);
        due("5: the ten gates stay", x.count(5), 1023);
    }

    // ---- promise 6

    private static void noSources() {
        sentence("2 for its first source (NONE for an input), 3 for its second source (NONE if it has no two)");
        ChipSlots x = Check.boardOf("B11i0n09a098o089x099r090i0i0i0i0", 10);
        Check.row("6: first source of gate", g -> x.gate(g, 2), NONE, 9, 9, 8, 9, 9, NONE);
        Check.row("6: second source of gate", g -> x.gate(g, 3), NONE, NONE, 8, 9, 9, NONE, NONE);
    }

    private static void clocks() {
        sentence("4 for its clock (NONE if it is not a register)");
        ChipSlots x = Check.boardOf("B11r000r001i0n00a000o000x000", 7);
        Check.row("6: clock of gate", g -> x.gate(g, 4), 0, 1, NONE, NONE, NONE, NONE, NONE);
    }

    private static void readers() {
        sentence("6 for the set of the gates of which it is a source");
        ChipSlots x = Check.boardOf("B11i0i0i0r091a099o089x098n09i0r071", 10);
        Check.row("6: readers of gate", g -> x.gate(g, 6), 0, 0, 0, 0, 0, 0, 0, 512, 32 + 64, 8 + 16 + 32 + 64 + 128);
    }

    private static void properties() {
        sentence("`what`: 0 for the kind, 1 for its chip");
        ChipSlots x = Check.boardOf("B41i3r100", 2);
        due("6: kind", x.gate(1, 0), 5);
        due("6: chip", x.gate(0, 1), 3);
        x.lay(0, 0);
        due("6: chip after a move", x.gate(0, 1), 0);
        sentence("5 for its value");
        Check.row("6: value", v -> x.input(0, v) + 10 * x.gate(0, 5), 0, 10, 21);
        sentence("Returns the property; UNKNOWN if there is no such gate; OUTSIDE if what is not 0 to 6.");
        Check.beside("6: gate(.., 0)", 0, 1, UNKNOWN, g -> x.gate(g, 0));
        Check.beside("6: gate(0, ..)", 0, 6, OUTSIDE, what -> x.gate(0, what));
        ChipSlots all = Check.boardOf(TEN_INPUTS, 10);
        due("6: gate 9 of ten", all.gate(9, 0), 0);
        Check.beside("6: gate(.., 6) of ten", 0, 9, UNKNOWN, g -> all.gate(g, 6));
        for (int g = 0; g < 10; g++) {
            due("6: without gates", new ChipSlots().gate(g, 0), UNKNOWN);
        }
    }
}
