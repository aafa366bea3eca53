import java.math.BigInteger;

/** Promises 12, 13, 17 to 21, 23, 24 and 27: a test for each sentence that names a boundary. */
public final class QuestionBoundariesTest {
    private static final int UNKNOWN = ChipSlots.UNKNOWN;
    private static final int OUTSIDE = ChipSlots.OUTSIDE;
    private static final int FULL = ChipSlots.FULL;
    private static final int NONE = ChipSlots.NONE;
    private static final int LEAST = Integer.MIN_VALUE;
    private static final int MOST = Integer.MAX_VALUE;

    private static final String TEN_INPUTS = "B11" + "i0".repeat(10);
    /** An input and a chain of nine registers: a 1 is in register g after g steps. */
    private static final String CHAIN = "B11i0r000r010r020r030r040r050r060r070r080";
    /** A register that changes in each step, and its not. */
    private static final String TOGGLE = "B11r010n00";

    private QuestionBoundariesTest() {
    }

    public static void main(String[] args) {
        aheadNumbers();
        aheadErrors();
        periodBeginnings();
        periodLengths();
        periodParity();
        periodErrors();
        statementsInOrder();
        everyStatement();
        stepStatements();
        inputStatements();
        moveStatements();
        valueStatements();
        slotStatements();
        pinStatements();
        onACopy();
        rows();
        judgeErrors();
        observations();
        observationErrors();
        observationsStay();
        unsee();
        whichSteps();
        whichInLoops();
        whichIgnores();
        whichNone();
        shares();
        sharesOfLoops();
        shareErrors();
        seeds();
        seedWraps();
        drawnInputs();
        drawnNumbers();
        drawnCopy();
        counts();
        fullCounts();
        countErrors();
        Check.finish();
    }

    private static void sentence(String words) {
        Check.sentence(words);
    }

    private static void due(String what, long got, long want) {
        Check.due(what, got, want);
    }

    // ---- promise 12

    private static void aheadNumbers() {
        sentence("`n`: the number of steps, 0 to 99");
        ChipSlots x = Check.boardOf(TOGGLE, 2);
        due("12: no step", x.ahead(0, 0), 0);
        due("12: one step", x.ahead(1, 0), 1);
        due("12: 98 steps", x.ahead(98, 0), 0);
        due("12: 99 steps", x.ahead(99, 0), 1);
        due("12: of the not", x.ahead(99, 1), 0);
        ChipSlots chain = Check.boardOf(CHAIN, 10);
        chain.input(0, 2);
        due("12: eight steps", chain.ahead(8, 9), 0);
        due("12: nine steps, unknown", chain.ahead(9, 9), 2);
    }

    private static void aheadErrors() {
        sentence("Returns the value; OUTSIDE if n is out of range; UNKNOWN if there is no such gate.");
        ChipSlots x = Check.boardOf(TOGGLE, 2);
        Check.beside("12: ahead(.., 0)", 0, 99, OUTSIDE, n -> x.ahead(n, 0));
        Check.beside("12: ahead(.., 2)", 0, 99, OUTSIDE, n -> x.ahead(n, 2));
        Check.beside("12: ahead(0, ..)", 0, 1, UNKNOWN, g -> x.ahead(0, g));
        Check.beside("12: ahead(99, ..)", 0, 1, UNKNOWN, g -> x.ahead(99, g));
        ChipSlots ten = Check.boardOf(CHAIN, 10);
        Check.beside("12: ahead(0, ..) of ten", 0, 9, UNKNOWN, g -> ten.ahead(0, g));
    }

    // ---- promise 13

    private static void rounds(String what, ChipSlots x, int n, int m) {
        due("13: " + what + ", n", x.round(0), n);
        due("13: " + what + ", m", x.round(1), m);
    }

    private static void periodBeginnings() {
        sentence("Finds a period: the smallest n, 0 to 60, for which there is an m from 1 to 60 such that after n steps and "
            + "after n + m steps all gates have the same values and the counts are both even or both odd");
        ChipSlots chain = Check.boardOf(CHAIN, 10);
        rounds("still", chain, 0, 2);
        chain.input(0, 1);
        rounds("a 1 on its way", chain, 9, 2);
        chain.step(8);
        rounds("nearly at its end", chain, 1, 2);
        chain.step(1);
        rounds("at its end", chain, 0, 2);
        ChipSlots late = Check.boardOf("B11r041r091r081r001r021r061r011a015x007n03", 10);
        rounds("the latest beginning", late, 60, 6);
        ChipSlots later = Check.boardOf("B11r091r021r001r011r051r031r081n06n04o057", 10);
        rounds("62 steps are too many", later, NONE, NONE);
        later.step(1);
        rounds("61 steps are too many", later, NONE, NONE);
        later.step(1);
        due("13: 60 steps are not", later.round(0), 60);
        later.step(1);
        due("13: nor are 59", later.round(0), 59);
    }

    private static void periodLengths() {
        sentence("and then the smallest such m");
        ChipSlots sixty = Check.boardOf("B11r050r000r010r020x032n04n07r061", 8);
        rounds("the longest period", sixty, 0, 60);
        sixty.step(99);
        rounds("the longest period later", sixty, 0, 60);
        // Found by a search with another program.
        rounds("late and long", Check.boardOf("B11r041n05r060r001r021r090x075r031o012r080", 10), 30, 60);
        ChipSlots five = Check.boardOf("B11r060r000r010r020r030x042n05", 7);
        rounds("62 steps are too many", five, NONE, NONE);
        // A 1 goes round through four registers, then through three, which takes an even number of steps.
        for (String ring : new String[] {"B11i0o005r010r020r030r040", "B11i0o004r010r020r030"}) {
            int registers = ring.length() == 25 ? 4 : 3;
            ChipSlots x = Check.boardOf(ring, registers + 2);
            x.input(0, 1);
            x.step(1);
            x.input(0, 0);
            rounds("a ring of " + registers, x, 0, registers == 4 ? 4 : 6);
        }
    }

    private static void periodParity() {
        sentence("the counts are both even or both odd");
        ChipSlots still = new ChipSlots();
        rounds("nothing changes, but the count", still, 0, 2);
        still.step(1);
        rounds("at an odd count", still, 0, 2);
        rounds("15 states twice", Check.boardOf("B11r050r000r010r020x032n04", 6), 0, 30);
        ChipSlots slow = Check.boardOf("B11r011n00", 2);
        rounds("clock 1", slow, 0, 4);
        slow.step(1);
        rounds("clock 1 at an odd count", slow, 0, 4);
    }

    private static void periodErrors() {
        sentence("Returns that number; NONE if there is none; OUTSIDE if what is neither 0 nor 1.");
        ChipSlots five = Check.boardOf("B11r060r000r010r020r030x042n05", 7);
        Check.row("13: without a period", five::round, NONE, NONE, OUTSIDE);
        Check.beside("13: round", 0, 1, OUTSIDE, five::round);
        sentence("`what`: 0 for n, 1 for m");
        ChipSlots bare = new ChipSlots();
        Check.row("13: with a period", bare::round, 0, 2, OUTSIDE);
        Check.beside("13: round", 0, 1, OUTSIDE, bare::round);
    }

    // ---- promise 17

    private static void judge(ChipSlots x, int n, long row, int want) {
        due("17: judge(" + n + ", " + row + ")", x.judge(n, row), want);
    }

    private static void statementsInOrder() {
        sentence("Checks a sequence of n statements, written as a decimal number of 3 * n digits (leading zeros included), "
            + "three digits for each statement, the first one most significant.");
        ChipSlots x = Check.boardOf(TOGGLE, 2);
        judge(x, 4, 101401101400L, NONE);
        judge(x, 4, 400101401101L, NONE);
        judge(x, 2, 101, 0);
        judge(x, 4, 101, 0);
        judge(x, 3, 101101, 0);
        judge(x, 1, 101, NONE);
    }

    /** On a board with two chips, one pin, the input 0, the not 1 and the register 2: all 1000 statements. */
    private static void everyStatement() {
        sentence("A statement with another k, one that names something that does not exist or is out of range, one that "
            + "cannot be carried out, or one that is not true is wrong.");
        String right = " 200 201 202 301 310 320 400 411 420 502 ";
        ChipSlots x = null;
        for (int statement = 0; statement < 1000; statement++) {
            if (statement % 100 == 0) {
                x = Check.boardOf("B21i0n10r111", 3);
            }
            boolean steps = statement > 100 && statement < 200;
            boolean pins = statement > 600 && statement < 610;
            boolean holds = steps || pins || right.contains(" " + statement + " ");
            judge(x, 1, statement, holds ? NONE : 0);
            judge(x, 2, 101000 + statement, holds ? NONE : 1);
            judge(x, 2, 1000L * statement + 199, holds ? NONE : 0);
        }
    }

    private static void stepStatements() {
        sentence("k = 1: ab steps are made (ab must not be 0)");
        ChipSlots x = Check.boardOf(CHAIN, 10);
        x.input(0, 1);
        judge(x, 1, 100, 0);
        judge(x, 2, 101411, NONE);
        judge(x, 2, 108490, NONE);
        judge(x, 2, 109491, NONE);
        judge(x, 2, 199491, NONE);
        ChipSlots toggle = Check.boardOf(TOGGLE, 2);
        judge(toggle, 2, 199401, NONE);
        judge(toggle, 2, 198400, NONE);
        judge(toggle, 4, 199199199401L, NONE);
        judge(toggle, 2, 110400, NONE);
    }

    private static void inputStatements() {
        sentence("k = 2: the value of input a becomes b, 0 to 2");
        ChipSlots x = Check.boardOf("B11" + "n09".repeat(9) + "i0", 10);
        judge(x, 2, 291400, NONE);
        judge(x, 2, 292402, NONE);
        judge(x, 2, 290401, NONE);
        judge(x, 1, 293, 0);
        judge(x, 1, 299, 0);
        judge(x, 1, 280, 0);
        judge(x, 4, 291492290491L, 1);
        judge(x, 4, 291491292492L, NONE);
    }

    private static void moveStatements() {
        sentence("k = 3: gate a is moved to chip b, on which it is not");
        ChipSlots x = Check.boardOf("B41i0n30", 2);
        judge(x, 2, 303501, NONE);
        judge(x, 2, 310501, NONE);
        judge(x, 2, 303303, 1);
        judge(x, 2, 301300, NONE);
        judge(x, 1, 300, 0);
        judge(x, 1, 304, 0);
        judge(x, 1, 320, 0);
        judge(x, 2, 312503, NONE);
        judge(Check.boardOf("B11i0", 1), 1, 301, 0);
    }

    private static void valueStatements() {
        sentence("k = 4: gate a has the value b");
        ChipSlots x = Check.boardOf("B11i0i0i0i0i0i0i0n09n09i0", 10);
        x.input(9, 2);
        x.input(1, 1);
        judge(x, 4, 400411492472L, NONE);
        for (int b = 0; b <= 9; b++) {
            judge(x, 1, 490 + b, b == 2 ? NONE : 0);
            judge(x, 1, 410 + b, b == 1 ? NONE : 0);
            judge(x, 1, 400 + b, b == 0 ? NONE : 0);
        }
        judge(new ChipSlots(), 1, 400, 0);
    }

    private static void slotStatements() {
        sentence("k = 5: the step takes ab slots");
        ChipSlots longest = Check.boardOf("B41r090n30n01n32n03n34n05n36n07n38", 10);
        judge(longest, 1, 531, NONE);
        judge(longest, 1, 530, 0);
        judge(longest, 1, 532, 0);
        judge(longest, 2, 301529, NONE);
        ChipSlots bare = new ChipSlots();
        judge(bare, 1, 500, 0);
        judge(bare, 1, 501, NONE);
        judge(bare, 1, 502, 0);
        judge(bare, 1, 510, 0);
    }

    private static void pinStatements() {
        sentence("k = 6: a is 0, and the number of pins becomes b, 1 to 9");
        ChipSlots x = Check.boardOf("B21i0i0i0i0i0i0a101a123a145", 9);
        judge(x, 2, 601507, NONE);
        judge(x, 2, 602504, NONE);
        judge(x, 2, 609502, NONE);
        judge(x, 4, 609601507500L, 3);
        judge(x, 1, 600, 0);
        judge(x, 1, 611, 0);
        judge(x, 1, 619, 0);
        judge(x, 1, 610, 0);
        judge(x, 1, 690, 0);
    }

    private static void onACopy() {
        sentence("Statements 1, 2, 3 and 6 are carried out on a copy, beginning with the present state; the others are "
            + "checked on this copy at their moment.");
        ChipSlots x = Check.boardOf("B31i0n20r101", 3);
        x.input(0, 1);
        x.step(1);
        judge(x, 4, 401420101421L, NONE);
        judge(x, 4, 200411101420L, NONE);
        judge(x, 4, 503310502503L, 3);
        judge(x, 3, 310502101L, NONE);
        due("17: values stay", x.count(7), 1);
        due("17: the count stays", x.count(4), 1);
        due("17: acts stay", x.count(9), 2);
        due("17: chips stay", x.gate(1, 1), 2);
        judge(x, 2, 609503, NONE);
        due("17: pins stay", x.count(3), 1);
        ChipSlots wide = Check.boardOf("B21i0i0i0i0i0i0a101a123a145", 9);
        judge(wide, 1, 507, NONE);
        wide.pins(2);
        judge(wide, 1, 504, NONE);
        wide.pins(9);
        judge(wide, 1, 502, NONE);
        wide.undo();
        judge(wide, 1, 504, NONE);
        wide.lay(6, 0);
        judge(wide, 1, 503, NONE);
        judge(x, 4, 200102420411L, NONE);
        judge(x, 4, 401420101421L, NONE);
    }

    private static void rows() {
        sentence("`row`: the number, 0 or more, of at most 3 * n digits");
        ChipSlots x = Check.boardOf(TOGGLE, 2);
        long limit = 1;
        for (int n = 1; n <= 4; n++) {
            limit *= 1000;
            judge(x, n, 0, 0);
            judge(x, n, limit - 1, 0);
            judge(x, n, limit, OUTSIDE);
            judge(x, n, limit + 101, OUTSIDE);
            judge(x, n, -1, OUTSIDE);
            judge(x, n, -limit, OUTSIDE);
            judge(x, n, Long.MIN_VALUE, OUTSIDE);
            judge(x, n, Long.MAX_VALUE, OUTSIDE);
        }
        judge(x, 1, (1L << 32) + 101, OUTSIDE);
    }

    private static void judgeErrors() {
        sentence("`n`: the number of statements, 1 to 4");
        ChipSlots x = Check.boardOf(TOGGLE, 2);
        judge(x, 1, 101, NONE);
        judge(x, 4, 101101101101L, NONE);
        Check.beside("17: judge(.., 101)", 1, 4, OUTSIDE, n -> x.judge(n, 101));
        judge(x, 5, 101101101101101L, OUTSIDE);
        judge(x, 0, 0, OUTSIDE);
        sentence("Returns the index of the first wrong statement; NONE if there is none; OUTSIDE if n or row is out of range.");
        judge(x, 4, 0, 0);
        judge(x, 4, 101000000000L, 1);
        judge(x, 4, 101101000000L, 2);
        judge(x, 4, 101101101000L, 3);
        judge(x, 4, 101000101101L, 1);
    }

    // ---- promises 18 to 20

    private static void observations() {
        sentence("`n`: the number of steps, 0 to 9, counted from the state in which which() is called");
        ChipSlots x = Check.boardOf(CHAIN, 10);
        x.input(0, 1);
        due("18: after no step", x.see(0, 0, 1, 1), 1);
        due("20: the input is not stuck", x.which(), 1022);
        due("18: after nine steps", x.see(9, 9, 1, 1), 2);
        due("20: and no register is", x.which(), 0);
        x.unsee();
        x.see(8, 9, 0, 1);
        due("20: after eight steps it is 0 anyway", x.which(), 1023);
        x.step(1);
        due("20: but one step later only if a register is stuck", x.which(), 1022);
        sentence("`v`: the value, 0 to 2 - `was`: 1 if the gate has this value, 0 if not");
        ChipSlots y = Check.boardOf("B11i0i0", 2);
        int[][] want = {{3, 0}, {2, 1}, {2, 1}};
        for (int v = 0; v <= 2; v++) {
            y.input(0, v);
            due("18: has it", y.see(0, 0, v, 1), 1);
            due("20: has " + v, y.which(), want[v][0]);
            y.unsee();
            due("18: has it not", y.see(0, 0, v, 0), 1);
            due("20: has not " + v, y.which(), want[v][1]);
            y.unsee();
        }
    }

    private static void observationErrors() {
        sentence("Returns the number of observations; UNKNOWN if there is no such gate; OUTSIDE if n, v or was is out of "
            + "range; FULL if there are 6 observations.");
        ChipSlots x = Check.boardOf(TOGGLE, 2);
        for (int number = 1; number <= 7; number++) {
            int held = number - 1;
            Check.beside("18: see(0, .., 0, 0)", 0, 1, UNKNOWN, g -> x.see(0, g, 0, 0));
            Check.beside("18: see(.., 0, 0, 0)", 0, 9, OUTSIDE, n -> x.see(n, 0, 0, 0));
            Check.beside("18: see(0, 0, .., 0)", 0, 2, OUTSIDE, v -> x.see(0, 0, v, 0));
            Check.beside("18: see(0, 0, 0, ..)", 0, 1, OUTSIDE, was -> x.see(0, 0, 0, was));
            Check.beside("18: see(10, .., 3, 2)", 0, 1, UNKNOWN, g -> x.see(10, g, 3, 2));
            due("18: errors are not held", x.count(10), held);
            due("18: the last allowed", x.see(9, 1, 2, 0), number == 7 ? FULL : number);
        }
        due("18: six", x.count(10), 6);
        due("18: none of them is lost", x.which(), 3);
    }

    private static void observationsStay() {
        sentence("Observations stay when another board is made.");
        ChipSlots x = Check.boardOf("B11i0i0", 2);
        x.input(1, 1);
        x.see(0, 1, 1, 1);
        due("20: gate 0 can be stuck", x.which(), 1);
        Check.boardOn(x, "B11i0n00n00", 3);
        due("20: and on another board gate 2 too", x.which(), 1 + 4);
        due("18: one observation", x.count(10), 1);
    }

    private static void unsee() {
        sentence("Removes all observations. Returns how many there were.");
        ChipSlots x = Check.boardOf("B11i0", 1);
        due("19: none", x.unsee(), 0);
        for (int number = 1; number <= 6; number++) {
            for (int i = 0; i < number; i++) {
                x.see(0, 0, 1, 1);
            }
            due("20: cannot be", x.which(), 0);
            due("19: all", x.unsee(), number);
            due("27: none", x.count(10), 0);
            due("20: can be again", x.which(), 1);
        }
        due("18: room again", x.see(9, 0, 0, 1), 1);
    }

    private static void whichSteps() {
        sentence("Finds the gates that can be stuck: those for each of which all observations are true, beginning with the "
            + "present state, if the value of this gate is always 0 (whatever its kind, its sources and its stored value are");
        ChipSlots kinds = Check.boardOf("B11i0n02i0a000o000x002r000", 7);
        kinds.input(0, 1);
        kinds.step(1);
        due("20: all but the last two are 1", kinds.count(7), 1 + 2 + 8 + 16 + 32 + 64);
        for (int g : new int[] {1, 3, 4, 5, 6}) {
            kinds.see(0, g, 0, 1);
            due("20: gate " + g + " or its source", kinds.which() & (1 << g), 1 << g);
            kinds.unsee();
        }
        kinds.see(0, 6, 0, 1);
        due("20: a register's stored value is not looked at", kinds.which(), 64);
        kinds.unsee();
        kinds.see(1, 6, 0, 1);
        due("20: nor is it after a step", kinds.which(), 64 + 1);
        sentence("all observations are true");
        kinds.unsee();
        kinds.see(1, 6, 0, 1);
        kinds.see(0, 0, 1, 1);
        due("20: two observations", kinds.which(), 64);
        kinds.see(0, 6, 1, 1);
        due("20: three that cannot be", kinds.which(), 0);
    }

    private static void whichInLoops() {
        sentence("its value is not unknown then, also in a loop; and a loop through this gate does not make other gates "
            + "unknown: they are computed from its 0)");
        ChipSlots own = Check.boardOf("B11n00i0", 2);
        own.see(0, 0, 2, 0);
        due("20: its own source", own.which(), 1);
        ChipSlots ring = Check.boardOf("B11n02n00n01", 3);
        ring.see(0, 1, 1, 1);
        due("20: a ring of three, gate 1 is 1", ring.which(), 1);
        ring.see(0, 2, 0, 1);
        due("20: and gate 2 is 0", ring.which(), 1);
        ring.unsee();
        ring.see(0, 0, 2, 1);
        due("20: no gate of the ring leaves another unknown", ring.which(), 0);
        ChipSlots two = Check.boardOf("B11n01n00n03n02a013", 5);
        two.see(0, 4, 2, 1);
        due("20: another loop stays unknown", two.which(), 1 + 2 + 4 + 8);
        two.see(0, 1, 2, 0);
        due("20: the first loop is broken", two.which(), 1 + 2);
        ChipSlots unknown = Check.boardOf("B11i0n00", 2);
        unknown.input(0, 2);
        unknown.see(0, 1, 1, 1);
        due("20: an unknown input is 0 then", unknown.which(), 1);
    }

    private static void whichIgnores() {
        sentence("Observations of gates that do not exist any more are ignored.");
        ChipSlots x = Check.boardOf(TEN_INPUTS, 10);
        x.see(0, 9, 1, 1);
        x.see(9, 5, 1, 1);
        due("20: never", x.which(), 0);
        for (int gates = 9; gates >= 0; gates--) {
            Check.boardOn(x, "B11" + "i0".repeat(gates), gates);
            due("20: with " + gates + " gates", x.which(), gates > 5 ? 0 : (1 << gates) - 1);
        }
        due("18: they are still held", x.count(10), 2);
        Check.boardOn(x, TEN_INPUTS, 10);
        due("20: and count again", x.which(), 0);
    }

    private static void whichNone() {
        sentence("Returns the set of these gates.");
        due("20: without gates", new ChipSlots().which(), 0);
        ChipSlots x = Check.boardOf(TEN_INPUTS, 10);
        due("20: all of them", x.which(), 1023);
        x.see(0, 0, 1, 1);
        due("20: none of them", x.which(), 0);
    }

    // ---- promise 21

    private static void share(ChipSlots x, int chip, int upper, int lower) {
        due("21: share(" + chip + ", true)", x.share(chip, true), upper);
        due("21: share(" + chip + ", false)", x.share(chip, false), lower);
    }

    private static void shares() {
        sentence("Returns the share of a chip in the number of working gates (a Shapley value), a fraction. The chips come one "
            + "after another, in each order equally likely.");
        ChipSlots one = Check.boardOf(TEN_INPUTS, 10);
        share(one, 0, 10, 1);
        share(Check.boardOf("B41", 0), 3, 0, 1);
        ChipSlots four = Check.boardOf("B41i0n10n21n32", 4);
        share(four, 0, 25, 12);
        share(four, 1, 13, 12);
        share(four, 2, 7, 12);
        share(four, 3, 1, 4);
        sentence("The share is the mean of how much the number of working gates increases when this chip comes.");
        four.lay(3, 0);
        share(four, 0, 13, 6);
        share(four, 1, 7, 6);
        share(four, 2, 2, 3);
        share(four, 3, 0, 1);
    }

    private static void sharesOfLoops() {
        sentence("A gate works if its chip has come and all its sources work, in the sense that neither it nor any gate on "
            + "which it depends, directly or not, is on a chip that has not come.");
        ChipSlots own = Check.boardOf("B21n00r110", 2);
        share(own, 0, 1, 1);
        share(own, 1, 1, 1);
        ChipSlots loop = Check.boardOf("B21n01n10", 2);
        share(loop, 0, 1, 1);
        share(loop, 1, 1, 1);
        ChipSlots registers = Check.boardOf("B31r210r020r120", 3);
        share(registers, 0, 5, 6);
        share(registers, 1, 11, 6);
        share(registers, 2, 1, 3);
        ChipSlots ring = Check.boardOf("B41r090r000r010r020r030r140r250r360r070r080", 10);
        for (int chip = 0; chip < 4; chip++) {
            share(ring, chip, 5, 2);
        }
    }

    private static void shareErrors() {
        sentence("Returns that number; UNKNOWN if there is no such chip.");
        for (int chips = 1; chips <= 4; chips++) {
            ChipSlots x = Check.boardOf("B" + chips + "1i" + (chips - 1), 1);
            share(x, chips - 1, 1, 1);
            Check.beside("21: share(.., true)", 0, chips - 1, UNKNOWN, c -> x.share(c, true));
            Check.beside("21: share(.., false)", 0, chips - 1, UNKNOWN, c -> x.share(c, false));
        }
    }

    // ---- promises 23 and 24

    private static void seeds() {
        sentence("Sets the seed for drawn(). - `v`: the new seed Returns the previous seed.");
        ChipSlots x = new ChipSlots();
        long[] seeds = {Long.MIN_VALUE, Long.MAX_VALUE, -1, 0, 1, LEAST, MOST, UNKNOWN, NONE, 1L << 32};
        long before = 0;
        for (long seed : seeds) {
            due("23: the previous seed", x.seed(seed), before);
            before = seed;
        }
    }

    /** The document's formula in numbers without an end, cut to 64 bits. */
    private static long nextSeed(long seed) {
        BigInteger product = BigInteger.valueOf(seed).multiply(BigInteger.valueOf(6364136223846793005L));
        return product.add(BigInteger.valueOf(1442695040888963407L)).longValue();
    }

    private static void seedWraps() {
        sentence("For each step, the seed becomes seed * 6364136223846793005 + 1442695040888963407 (long arithmetic with "
            + "overflow), and v is (int) (seed >>> 33).");
        ChipSlots x = Check.boardOf("B11i0", 1);
        long[] seeds = {0, 1, -1, 2, Long.MAX_VALUE, Long.MIN_VALUE, MOST, LEAST, 1L << 33, 123456789123456789L};
        for (long seed : seeds) {
            x.seed(seed);
            due("24: one step", x.drawn(1), 0);
            due("24: seed after " + seed, x.seed(seed), nextSeed(seed));
        }
        due("24: the first summand", nextSeed(0), 1442695040888963407L);
        long after = 5;
        x.seed(after);
        for (int i = 0; i < 20; i++) {
            after = nextSeed(after);
        }
        x.drawn(20);
        due("24: seed after 20 steps", x.seed(0), after);
    }

    private static void drawnInputs() {
        sentence("The inputs, in ascending order and counted by k from 0, get bit k of v as their value; then the step is "
            + "made.");
        String nine = "B11" + "i0".repeat(9);
        for (int source = 0; source < 9; source++) {
            ChipSlots x = Check.boardOf(nine + "r0" + source + "0", 10);
            long seed = -1L << source;
            x.seed(seed);
            for (int i = 0; i < 40; i++) {
                seed = nextSeed(seed);
                int v = (int) (seed >>> 33);
                due("24: bit " + source, x.drawn(1), v >> source & 1);
            }
        }
        ChipSlots between = Check.boardOf("B11n00i0r010i0r030", 5);
        between.seed(99);
        long seed = 99;
        for (int i = 0; i < 40; i++) {
            seed = nextSeed(seed);
            int v = (int) (seed >>> 33);
            due("24: gates between do not count", between.drawn(1), (v & 1) + (v >> 1 & 1));
        }
    }

    private static void drawnNumbers() {
        sentence("`m`: the number of steps, 1 to 20");
        ChipSlots x = Check.boardOf("B11n01r000", 2);
        due("24: one step", x.drawn(1), 1);
        due("24: two steps", x.drawn(2), 1);
        due("24: 19 steps", x.drawn(19), 10);
        due("24: 20 steps", x.drawn(20), 10);
        x.step(1);
        due("24: 19 steps from 1", x.drawn(19), 9);
        due("24: 20 steps from 1", x.drawn(20), 10);
        sentence("Returns the sum, over all these steps, of the number of registers that have the value 1 after the step; "
            + "OUTSIDE if m is out of range.");
        x.seed(4);
        Check.beside("24: drawn", 1, 20, OUTSIDE, x::drawn);
        due("24: the seed stays", x.seed(0), 4);
        ChipSlots nine = Check.boardOf("B11n00" + "r010".repeat(9), 10);
        due("24: unknown and 0 do not count", nine.drawn(20), 0);
        ChipSlots all = Check.boardOf("B11n09" + "r000".repeat(8) + "i0", 10);
        all.seed(0);
        long seed = 0;
        int sum = 0;
        for (int i = 0; i < 20; i++) {
            seed = nextSeed(seed);
            sum += 8 * (1 - ((int) (seed >>> 33) & 1));
        }
        due("24: eight registers", all.drawn(20), sum);
        due("24: without gates", new ChipSlots().drawn(20), 0);
    }

    private static void drawnCopy() {
        sentence("Simulates m steps with pseudo-random inputs on a copy of the present state; only the seed changes.");
        ChipSlots x = Check.boardOf("B11i0r010n02r001", 4);
        x.input(0, 2);
        x.step(1);
        x.drawn(20);
        due("24: values", x.count(8), 1 + 4);
        due("24: count", x.count(4), 1);
        due("24: acts", x.count(9), 2);
        due("24: text", x.count(0), 16);
        // Its own register keeps what it has, and clock 1 counts from the present count.
        ChipSlots own = Check.boardOf("B11n01r001", 2);
        due("24: four steps from an even count", own.drawn(4), 2);
        own.step(1);
        due("24: four steps from an odd count", own.drawn(4), 2);
        due("24: three steps from an odd count", own.drawn(3), 2);
    }

    // ---- promise 27

    private static void counts() {
        sentence("0 for the length of the text, 1 for the number of chips, 2 for the number of gates, 3 for the number of "
            + "pins, 4 for the count of steps, 5 for the set of the inputs, 6 for the set of the registers, 7 for the set of "
            + "the gates with the value 1, 8 for the set of those with the value 2, 9 for the acts that can be undone, 10 for "
            + "the number of observations");
        ChipSlots bare = new ChipSlots();
        Check.row("27: count of a new object", bare::count, 0, 1, 0, 1, 0, 0, 0, 0, 0, 0, 0, OUTSIDE);
    }

    private static void fullCounts() {
        sentence("`what`: 0 for the length of the text");
        ChipSlots x = Check.boardOf("B49i0i3n20a301o112x034r150r261n37a098", 10);
        x.input(0, 1);
        x.input(1, 2);
        for (int i = 0; i < 13; i++) {
            x.step(99);
        }
        for (int i = 0; i < 6; i++) {
            x.see(i, i, 0, 0);
        }
        Check.writeAll(x, "?".repeat(90));
        // Gate 2 is the not of a 1; 3 = 1 and 2, 4 = 2 or 0, 5 = 2 xor 2 are unknown, and so on to 8; 9 is in a loop.
        int unknowns = 2 + 8 + 16 + 32 + 64 + 128 + 256 + 512;
        Check.row("27: count of a full object", x::count, 90, 4, 10, 9, 1287, 3, 64 + 128, 1, unknowns, 14, 6, OUTSIDE);
    }

    private static void countErrors() {
        sentence("Returns the number; OUTSIDE if what is not 0 to 10.");
        ChipSlots x = Check.boardOf(TOGGLE, 2);
        Check.beside("27: count", 0, 10, OUTSIDE, x::count);
        Check.beside("27: count", 0, 10, OUTSIDE, new ChipSlots()::count);
    }
}
