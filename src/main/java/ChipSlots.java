/**
 * Logic emulation on several chips: gates and registers stand on chips in a line, and values
 * travel between neighboring chips over few pins, slot by slot. Sets of gates are bits: bit g
 * stands for gate g.
 */
public final class ChipSlots {
    public static final int UNKNOWN = -1, OUTSIDE = -2, STATE = -3, FULL = -4, NONE = -9;

    private static final int MOST_CHIPS = 4;
    private static final int MOST_PINS = 9;
    private static final int MOST_GATES = 10;
    private static final int MOST_LETTERS = 90;
    private static final int MOST_UNDOS = 14;
    private static final int MOST_SIGHTINGS = 6;
    private static final int MOST_STATEMENTS = 4;
    private static final int MOST_STEPS = 99;
    private static final int MOST_STEPS_SEEN = 9;
    private static final int MOST_STEPS_DRAWN = 20;
    private static final int MOST_SLOTS_ASKED = 99;
    private static final int MOST_SLOTS_FAILING = 8;
    private static final int MOST_PERIOD = 60;
    private static final int KEEPERS = 2;
    private static final int NO_MOVE = 100;
    private static final int TENTHS = 10;

    /** A value reaches each chip but its own at most once, and the last slot sends nothing. */
    private static final int MOST_SLOTS = MOST_GATES * (MOST_CHIPS - 1) + 1;

    /** Every number of chips that one gate can depend on divides it. */
    private static final int SHARE_UNIT = 12;

    private static final int INPUT = 0, NOT = 1, AND = 2, OR = 3, XOR = 4, REGISTER = 5;
    private static final int UNSURE = 2;
    private static final int NOT_STUCK = NONE;

    private static final long SEED_FACTOR = 6364136223846793005L;
    private static final long SEED_SUMMAND = 1442695040888963407L;

    private final Text text = new Text();
    private final Reader reader = new Reader();
    private Plan plan = new Plan();
    private Plan sparePlan = new Plan();
    private final State now = new State();
    private final State copy = new State();
    private final Logic logic = new Logic();
    private final Schedule schedule = new Schedule();
    private final History history = new History();
    private final Shelf kept = new Shelf(KEEPERS);
    private int keptSlots = 0;
    private final Sightings sightings = new Sightings();
    private final int[] trace = new int[2 * MOST_PERIOD + 1];
    private long lastSeed = 0L;

    public ChipSlots() {
    }

    // ---- the board

    public int write(int letter) {
        if (letter < 0 || letter > 255) {
            return OUTSIDE;
        }
        return text.append(letter) ? text.length : FULL;
    }

    public int wipe() {
        int had = text.length;
        text.length = 0;
        return had;
    }

    public int fault() {
        return reader.read(text, sparePlan);
    }

    public int board() {
        if (reader.read(text, sparePlan) != NONE) {
            return STATE;
        }
        Plan old = plan;
        plan = sparePlan;
        sparePlan = old;
        now.begin(plan);
        history.forget();
        keptSlots = 0;
        return plan.gates;
    }

    public int gate(int gate, int what) {
        if (!isGate(gate)) {
            return UNKNOWN;
        }
        switch (what) {
            case 0:
                return plan.kindOf(gate);
            case 1:
                return chipIn(now.places, gate);
            case 2:
                return plan.firstOf(gate);
            case 3:
                return plan.secondOf(gate);
            case 4:
                return plan.clockOf(gate);
            case 5:
                return valueNow(now, gate);
            case 6:
                return plan.readersOf(gate);
            default:
                return OUTSIDE;
        }
    }

    // ---- acts

    public int step(int n) {
        if (n < 1 || n > MOST_STEPS) {
            return OUTSIDE;
        }
        history.remember(now);
        makeSteps(now, n);
        return now.count;
    }

    public int input(int gate, int v) {
        if (!isGate(gate)) {
            return UNKNOWN;
        }
        if (plan.kindOf(gate) != INPUT) {
            return STATE;
        }
        if (!isValue(v)) {
            return OUTSIDE;
        }
        history.remember(now);
        int was = valueIn(now.ones, now.unknowns, gate);
        now.store(gate, v);
        return was;
    }

    public int lay(int gate, int chip) {
        if (!isGate(gate) || !isChip(chip)) {
            return UNKNOWN;
        }
        int was = chipIn(now.places, gate);
        if (was == chip) {
            return STATE;
        }
        history.remember(now);
        now.places = placed(now.places, gate, chip);
        return was;
    }

    public int pins(int v) {
        if (!isPins(v)) {
            return OUTSIDE;
        }
        history.remember(now);
        int was = now.pins;
        now.pins = v;
        return was;
    }

    public int undo() {
        if (history.held == 0) {
            return STATE;
        }
        history.recall(now);
        return history.held;
    }

    // ---- periods, schedules, judgements

    public int ahead(int n, int gate) {
        if (n < 0 || n > MOST_STEPS) {
            return OUTSIDE;
        }
        if (!isGate(gate)) {
            return UNKNOWN;
        }
        copy.takeFrom(now);
        makeSteps(copy, n);
        return valueNow(copy, gate);
    }

    public int round(int what) {
        if (what < 0 || what > 1) {
            return OUTSIDE;
        }
        traceSteps();
        for (int n = 0; n <= MOST_PERIOD; n++) {
            int period = periodFrom(n);
            if (period != NONE) {
                return what == 0 ? n : period;
            }
        }
        return NONE;
    }

    public int when(int gate, int chip) {
        if (!isGate(gate) || !isChip(chip)) {
            return UNKNOWN;
        }
        return schedule.firstSlot(plan, now, gate, chip);
    }

    public int slots(int what) {
        if (what < 0 || what > 3) {
            return OUTSIDE;
        }
        if (what == 3) {
            return bestMove();
        }
        schedule.run(plan, now.places, now.pins);
        if (what == 0) {
            return schedule.taken;
        }
        return what == 1 ? schedule.sent : greatestOf(schedule.lastSent);
    }

    public int fewest(int n) {
        if (n < 1 || n > MOST_SLOTS_ASKED) {
            return OUTSIDE;
        }
        for (int p = 1; p <= MOST_PINS; p++) {
            schedule.run(plan, now.places, p);
            if (schedule.taken <= n) {
                return p;
            }
        }
        return NONE;
    }

    public int judge(int n, long row) {
        if (n < 1 || n > MOST_STATEMENTS || row < 0 || row >= power(1000, n)) {
            return OUTSIDE;
        }
        copy.takeFrom(now);
        for (int i = 0; i < n; i++) {
            if (!holds(statementOf(row, n - 1 - i))) {
                return i;
            }
        }
        return NONE;
    }

    // ---- observations

    public int see(int n, int gate, int v, int was) {
        if (!isGate(gate)) {
            return UNKNOWN;
        }
        if (n < 0 || n > MOST_STEPS_SEEN || !isValue(v) || was < 0 || was > 1) {
            return OUTSIDE;
        }
        return sightings.add(n, gate, v, was) ? sightings.held : FULL;
    }

    public int unsee() {
        int had = sightings.held;
        sightings.held = 0;
        return had;
    }

    public int which() {
        int result = 0;
        for (int g = 0; g < plan.gates; g++) {
            if (canBeStuck(g)) {
                result |= bit(g);
            }
        }
        return result;
    }

    // ---- shares, chances

    /**
     * A gate works as soon as all chips that it depends on have come, and each of them is equally
     * likely the last one: so it adds 1 / (their number) to the share of each.
     */
    public int share(int chip, boolean upper) {
        if (!isChip(chip)) {
            return UNKNOWN;
        }
        int sum = 0;
        for (int g = 0; g < plan.gates; g++) {
            int chips = chipsNeeded(g);
            int number = Integer.bitCount(chips);
            if ((chips >>> chip & 1) == 1 && number > 0) {
                sum += SHARE_UNIT / number;
            }
        }
        return fraction(sum, SHARE_UNIT, upper);
    }

    /**
     * A slot that fails leaves everything as it was, so what is available depends only on how many
     * slots did not fail: there must be as many as the first slot of the gate on the chip says.
     */
    public int fails(int gate, int chip, int n, int x, boolean upper) {
        if (!isGate(gate) || !isChip(chip)) {
            return UNKNOWN;
        }
        if (n < 0 || n > MOST_SLOTS_FAILING || x < 0 || x > TENTHS) {
            return OUTSIDE;
        }
        int needed = schedule.firstSlot(plan, now, gate, chip);
        long weight = needed == NONE ? 0 : weightOfGoodSlots(needed, n, x);
        return fraction((int) weight, (int) power(TENTHS, n), upper);
    }

    public long seed(long v) {
        long was = lastSeed;
        lastSeed = v;
        return was;
    }

    public int drawn(int m) {
        if (m < 1 || m > MOST_STEPS_DRAWN) {
            return OUTSIDE;
        }
        copy.takeFrom(now);
        int sum = 0;
        for (int i = 0; i < m; i++) {
            lastSeed = lastSeed * SEED_FACTOR + SEED_SUMMAND;
            drawInputs((int) (lastSeed >>> 33));
            makeSteps(copy, 1);
            sum += Integer.bitCount(copy.ones & plan.registers);
        }
        return sum;
    }

    // ---- slots to keep in, counts

    public int keep(int slot) {
        if (!isKeeper(slot)) {
            return UNKNOWN;
        }
        kept.put(slot, now);
        keptSlots |= bit(slot);
        return now.count;
    }

    public int again(int slot) {
        if (!isKeeper(slot)) {
            return UNKNOWN;
        }
        if ((keptSlots & bit(slot)) == 0) {
            return STATE;
        }
        kept.get(slot, now);
        history.forget();
        return now.count;
    }

    public int count(int what) {
        switch (what) {
            case 0:
                return text.length;
            case 1:
                return plan.chips;
            case 2:
                return plan.gates;
            case 3:
                return now.pins;
            case 4:
                return now.count;
            case 5:
                return plan.inputs;
            case 6:
                return plan.registers;
            case 7:
                logic.compute(plan, now, NOT_STUCK);
                return logic.ones;
            case 8:
                logic.compute(plan, now, NOT_STUCK);
                return logic.unknowns;
            case 9:
                return history.held;
            case 10:
                return sightings.held;
            default:
                return OUTSIDE;
        }
    }

    // ---- what exists

    private boolean isGate(int gate) {
        return gate >= 0 && gate < plan.gates;
    }

    private boolean isChip(int chip) {
        return chip >= 0 && chip < plan.chips;
    }

    private static boolean isKeeper(int slot) {
        return slot >= 0 && slot < KEEPERS;
    }

    private static boolean isValue(int v) {
        return v >= 0 && v <= UNSURE;
    }

    private static boolean isPins(int v) {
        return v >= 1 && v <= MOST_PINS;
    }

    // ---- simulation

    private void makeSteps(State state, int n) {
        for (int i = 0; i < n; i++) {
            logic.compute(plan, state, NOT_STUCK);
            logic.tick(plan, state);
        }
    }

    private int valueNow(State state, int gate) {
        logic.compute(plan, state, NOT_STUCK);
        return valueIn(logic.ones, logic.unknowns, gate);
    }

    /** The stored values determine all others, so they alone are traced. */
    private void traceSteps() {
        copy.takeFrom(now);
        for (int i = 0; i < trace.length; i++) {
            trace[i] = copy.ones | copy.unknowns << MOST_GATES;
            makeSteps(copy, 1);
        }
    }

    /** The counts are both even or both odd only if the period is even. */
    private int periodFrom(int n) {
        int start = cell(trace, n);
        for (int m = 2; m <= MOST_PERIOD; m += 2) {
            if (cell(trace, n + m) == start) {
                return m;
            }
        }
        return NONE;
    }

    private boolean canBeStuck(int gate) {
        copy.takeFrom(now);
        int last = sightings.lastStep();
        for (int n = 0; n <= last; n++) {
            logic.compute(plan, copy, gate);
            if (!sightings.agree(n, plan, logic)) {
                return false;
            }
            logic.tick(plan, copy);
        }
        return true;
    }

    private void drawInputs(int bits) {
        int rest = bits;
        for (int g = 0; g < plan.gates; g++) {
            if (plan.kindOf(g) == INPUT) {
                copy.store(g, rest & 1);
                rest >>>= 1;
            }
        }
    }

    // ---- schedules

    private int bestMove() {
        schedule.run(plan, now.places, now.pins);
        int best = NO_MOVE;
        int leastTaken = schedule.taken;
        int leastSent = schedule.sent;
        for (int g = 0; g < plan.gates; g++) {
            for (int c = 0; c < plan.chips; c++) {
                if (c == chipIn(now.places, g)) {
                    continue;
                }
                schedule.run(plan, placed(now.places, g, c), now.pins);
                if (schedule.isBelow(leastTaken, leastSent)) {
                    best = 10 * g + c;
                    leastTaken = schedule.taken;
                    leastSent = schedule.sent;
                }
            }
        }
        return best;
    }

    // ---- judgements

    private static int statementOf(long row, int statementsBehind) {
        long rest = row;
        for (int i = 0; i < statementsBehind; i++) {
            rest /= 1000;
        }
        return (int) (rest % 1000);
    }

    private boolean holds(int statement) {
        int ab = statement % 100;
        int a = ab / 10;
        int b = ab % 10;
        switch (statement / 100) {
            case 1:
                makeSteps(copy, ab);
                return ab != 0;
            case 2:
                return setsInput(a, b);
            case 3:
                return movesGate(a, b);
            case 4:
                return isGate(a) && valueNow(copy, a) == b;
            case 5:
                schedule.run(plan, copy.places, copy.pins);
                return schedule.taken == ab;
            case 6:
                return a == 0 && setsPins(b);
            default:
                return false;
        }
    }

    private boolean setsInput(int gate, int v) {
        if (!isGate(gate) || plan.kindOf(gate) != INPUT || !isValue(v)) {
            return false;
        }
        copy.store(gate, v);
        return true;
    }

    private boolean movesGate(int gate, int chip) {
        if (!isGate(gate) || !isChip(chip) || chipIn(copy.places, gate) == chip) {
            return false;
        }
        copy.places = placed(copy.places, gate, chip);
        return true;
    }

    private boolean setsPins(int v) {
        if (!isPins(v)) {
            return false;
        }
        copy.pins = v;
        return true;
    }

    // ---- shares, chances

    private int chipsNeeded(int gate) {
        int needed = plan.allBefore(gate);
        int chips = 0;
        for (int g = 0; g < plan.gates; g++) {
            if ((needed & bit(g)) != 0) {
                chips |= 1 << chipIn(now.places, g);
            }
        }
        return chips;
    }

    /** In units of 10 to the power of -n: the probability of at least so many good slots of n. */
    private static long weightOfGoodSlots(int least, int n, int x) {
        long sum = 0;
        for (int good = least; good <= n; good++) {
            sum += choices(n, good) * power(TENTHS - x, good) * power(x, n - good);
        }
        return sum;
    }

    private static long choices(int n, int k) {
        long result = 1;
        for (int i = 1; i <= k; i++) {
            result = result * (n - k + i) / i;
        }
        return result;
    }

    private static long power(int base, int exponent) {
        long result = 1;
        for (int i = 0; i < exponent; i++) {
            result *= base;
        }
        return result;
    }

    private static int fraction(int top, int bottom, boolean upper) {
        int divisor = commonDivisor(top, bottom);
        if (divisor == 0) {
            return upper ? 0 : 1;
        }
        return upper ? top / divisor : bottom / divisor;
    }

    /** Euclid's way; 64 rounds are more than any two ints need. */
    private static int commonDivisor(int a, int b) {
        int greater = a;
        int smaller = b;
        for (int i = 0; i < 64 && smaller != 0; i++) {
            int rest = greater % smaller;
            greater = smaller;
            smaller = rest;
        }
        return greater;
    }

    // ---- sets and rows

    /** The set of one gate; the empty set for NONE and all that is no gate. */
    private static int bit(int gate) {
        return gate >= 0 && gate < MOST_GATES ? 1 << gate : 0;
    }

    private static int greatestOf(int set) {
        for (int g = MOST_GATES - 1; g >= 0; g--) {
            if ((set & bit(g)) != 0) {
                return g;
            }
        }
        return NONE;
    }

    private static int lowestOf(int set, int most) {
        int rest = set;
        for (int i = 0; i < most && rest != 0; i++) {
            rest &= rest - 1;
        }
        return set & ~rest;
    }

    private static int valueIn(int ones, int unknowns, int gate) {
        if ((unknowns & bit(gate)) != 0) {
            return UNSURE;
        }
        return (ones & bit(gate)) != 0 ? 1 : 0;
    }

    /** The chips of all gates stand in one number, two bits for each gate. */
    private static int chipIn(int places, int gate) {
        return places >>> 2 * gate & 3;
    }

    private static int placed(int places, int gate, int chip) {
        return places & ~(3 << 2 * gate) | (chip & 3) << 2 * gate;
    }

    private static int cell(int[] row, int index) {
        return index >= 0 && index < row.length ? row[index] : 0;
    }

    private static void setCell(int[] row, int index, int value) {
        if (index >= 0 && index < row.length) {
            row[index] = value;
        }
    }

    /** The text that describes a board. */
    private static final class Text {
        private final int[] letters = new int[MOST_LETTERS];
        private int length = 0;

        boolean append(int letter) {
            if (length >= MOST_LETTERS) {
                return false;
            }
            setCell(letters, length, letter);
            length++;
            return true;
        }

        int letterAt(int index) {
            return cell(letters, index);
        }
    }

    /** What a text tells of a board: all that acts do not change, and how the board begins. */
    private static final class Plan {
        private int chips = 1;
        private int firstPins = 1;
        private int firstPlaces = 0;
        private int gates = 0;
        private int inputs = 0;
        private int registers = 0;
        private int slowRegisters = 0;
        private final int[] kinds = new int[MOST_GATES];
        private final int[] firsts = new int[MOST_GATES];
        private final int[] seconds = new int[MOST_GATES];
        private final int[] clocks = new int[MOST_GATES];
        private final int[] sourceSets = new int[MOST_GATES];

        void clear() {
            chips = 1;
            firstPins = 1;
            firstPlaces = 0;
            gates = 0;
            inputs = 0;
            registers = 0;
            slowRegisters = 0;
        }

        void addGate(int kind) {
            if (gates >= MOST_GATES) {
                return;
            }
            setCell(kinds, gates, kind);
            setCell(firsts, gates, NONE);
            setCell(seconds, gates, NONE);
            setCell(clocks, gates, NONE);
            setCell(sourceSets, gates, 0);
            if (kind == INPUT) {
                inputs |= bit(gates);
            }
            if (kind == REGISTER) {
                registers |= bit(gates);
            }
            gates++;
        }

        int lastKind() {
            return kindOf(gates - 1);
        }

        void placeLast(int chip) {
            firstPlaces = placed(firstPlaces, gates - 1, chip);
        }

        void setFirst(int source) {
            setCell(firsts, gates - 1, source);
            setCell(sourceSets, gates - 1, bit(source));
        }

        void setSecond(int source) {
            setCell(seconds, gates - 1, source);
            setCell(sourceSets, gates - 1, sourcesOf(gates - 1) | bit(source));
        }

        void setClock(int clock) {
            setCell(clocks, gates - 1, clock);
            if (clock == 1) {
                slowRegisters |= bit(gates - 1);
            }
        }

        int kindOf(int gate) {
            return cell(kinds, gate);
        }

        int firstOf(int gate) {
            return cell(firsts, gate);
        }

        int secondOf(int gate) {
            return cell(seconds, gate);
        }

        int clockOf(int gate) {
            return cell(clocks, gate);
        }

        int all() {
            return (1 << gates) - 1;
        }

        int storing() {
            return inputs | registers;
        }

        int sourcesOf(int gate) {
            return cell(sourceSets, gate);
        }

        int readersOf(int gate) {
            int result = 0;
            for (int g = 0; g < gates; g++) {
                if ((sourcesOf(g) & bit(gate)) != 0) {
                    result |= bit(g);
                }
            }
            return result;
        }

        /** The gate and all gates on which it depends, through registers too. */
        int allBefore(int gate) {
            int result = bit(gate);
            for (int pass = 0; pass < gates; pass++) {
                int before = result;
                for (int g = 0; g < gates; g++) {
                    if ((result & bit(g)) != 0) {
                        result |= sourcesOf(g);
                    }
                }
                if (result == before) {
                    break;
                }
            }
            return result;
        }
    }

    /** Reads a text letter by letter into a plan and finds where it stops being a board. */
    private static final class Reader {
        private static final int AT_START = 0, AT_CHIPS = 1, AT_PINS = 2, AT_GATE = 3,
            AT_CHIP = 4, AT_FIRST = 5, AT_SECOND = 6, AT_CLOCK = 7;

        private int place = AT_START;
        private int greatestSource = NONE;

        int read(Text text, Plan plan) {
            place = AT_START;
            greatestSource = NONE;
            plan.clear();
            for (int i = 0; i < text.length; i++) {
                int letter = text.letterAt(i);
                if (!fits(letter, plan)) {
                    return i;
                }
                take(letter, plan);
            }
            // Any source can still be told while letters may follow: only the end decides.
            return place == AT_GATE && greatestSource < plan.gates ? NONE : text.length;
        }

        private boolean fits(int letter, Plan plan) {
            int digit = letter - '0';
            switch (place) {
                case AT_START:
                    return letter == 'B';
                case AT_CHIPS:
                    return digit >= 1 && digit <= MOST_CHIPS;
                case AT_PINS:
                    return isPins(digit);
                case AT_GATE:
                    return kindOfLetter(letter) != NONE && plan.gates < MOST_GATES;
                case AT_CHIP:
                    return digit >= 0 && digit < plan.chips;
                case AT_CLOCK:
                    return digit >= 0 && digit <= 1;
                default:
                    return digit >= 0 && digit <= 9;
            }
        }

        /** Takes a letter that fits. */
        private void take(int letter, Plan plan) {
            int digit = letter - '0';
            switch (place) {
                case AT_START:
                    place = AT_CHIPS;
                    break;
                case AT_CHIPS:
                    plan.chips = digit;
                    place = AT_PINS;
                    break;
                case AT_PINS:
                    plan.firstPins = digit;
                    place = AT_GATE;
                    break;
                case AT_GATE:
                    plan.addGate(kindOfLetter(letter));
                    place = AT_CHIP;
                    break;
                case AT_CHIP:
                    plan.placeLast(digit);
                    place = plan.lastKind() == INPUT ? AT_GATE : AT_FIRST;
                    break;
                case AT_FIRST:
                    plan.setFirst(digit);
                    greatestSource = Math.max(greatestSource, digit);
                    place = behindFirst(plan.lastKind());
                    break;
                case AT_SECOND:
                    plan.setSecond(digit);
                    greatestSource = Math.max(greatestSource, digit);
                    place = AT_GATE;
                    break;
                default:
                    plan.setClock(digit);
                    place = AT_GATE;
                    break;
            }
        }

        private static int behindFirst(int kind) {
            if (kind == NOT) {
                return AT_GATE;
            }
            return kind == REGISTER ? AT_CLOCK : AT_SECOND;
        }

        private static int kindOfLetter(int letter) {
            switch (letter) {
                case 'i':
                    return INPUT;
                case 'n':
                    return NOT;
                case 'a':
                    return AND;
                case 'o':
                    return OR;
                case 'x':
                    return XOR;
                case 'r':
                    return REGISTER;
                default:
                    return NONE;
            }
        }
    }

    /** What acts change: the stored values, the chips of the gates, the pins and the count. */
    private static final class State {
        private int ones = 0;
        private int unknowns = 0;
        private int places = 0;
        private int pins = 1;
        private int count = 0;

        void begin(Plan plan) {
            ones = 0;
            unknowns = 0;
            places = plan.firstPlaces;
            pins = plan.firstPins;
            count = 0;
        }

        void takeFrom(State other) {
            ones = other.ones;
            unknowns = other.unknowns;
            places = other.places;
            pins = other.pins;
            count = other.count;
        }

        void store(int gate, int v) {
            ones = v == 1 ? ones | bit(gate) : ones & ~bit(gate);
            unknowns = v == UNSURE ? unknowns | bit(gate) : unknowns & ~bit(gate);
        }
    }

    /** Room for some states, made once, so that acts make no objects. */
    private static final class Shelf {
        private static final int WIDTH = 5;

        private final int[] cells;

        Shelf(int states) {
            cells = new int[Math.max(states, 0) * WIDTH];
        }

        void put(int index, State state) {
            int base = index * WIDTH;
            setCell(cells, base, state.ones);
            setCell(cells, base + 1, state.unknowns);
            setCell(cells, base + 2, state.places);
            setCell(cells, base + 3, state.pins);
            setCell(cells, base + 4, state.count);
        }

        void get(int index, State state) {
            int base = index * WIDTH;
            state.ones = cell(cells, base);
            state.unknowns = cell(cells, base + 1);
            state.places = cell(cells, base + 2);
            state.pins = cell(cells, base + 3);
            state.count = cell(cells, base + 4);
        }
    }

    /** The states before the latest acts, in a ring: the oldest one makes room. */
    private static final class History {
        private final Shelf ring = new Shelf(MOST_UNDOS);
        private int next = 0;
        private int held = 0;

        void remember(State state) {
            ring.put(next, state);
            next = next + 1 < MOST_UNDOS ? next + 1 : 0;
            held = Math.min(held + 1, MOST_UNDOS);
        }

        void recall(State state) {
            if (held == 0) {
                return;
            }
            next = next > 0 ? next - 1 : MOST_UNDOS - 1;
            held--;
            ring.get(next, state);
        }

        void forget() {
            held = 0;
        }
    }

    /** The values of all gates in a state, perhaps with a gate that is stuck at 0. */
    private static final class Logic {
        private int ones = 0;
        private int unknowns = 0;
        private int settled = 0;

        /** What never settles is in a loop or behind one, and so unknown whatever its sources. */
        void compute(Plan plan, State state, int stuck) {
            settled = plan.storing() | bit(stuck);
            ones = state.ones & ~bit(stuck);
            unknowns = state.unknowns & ~bit(stuck);
            for (int pass = 0; pass < plan.gates; pass++) {
                int before = settled;
                settle(plan);
                if (settled == before || settled == plan.all()) {
                    break;
                }
            }
            unknowns |= plan.all() & ~settled;
        }

        private void settle(Plan plan) {
            for (int g = 0; g < plan.gates; g++) {
                if ((settled & bit(g)) == 0 && (plan.sourcesOf(g) & ~settled) == 0) {
                    int a = valueIn(ones, unknowns, plan.firstOf(g));
                    int b = valueIn(ones, unknowns, plan.secondOf(g));
                    setValue(g, outcome(plan.kindOf(g), a, b));
                    settled |= bit(g);
                }
            }
        }

        private void setValue(int gate, int v) {
            if (v == 1) {
                ones |= bit(gate);
            }
            if (v == UNSURE) {
                unknowns |= bit(gate);
            }
        }

        private static int outcome(int kind, int a, int b) {
            boolean unsure = a == UNSURE || b == UNSURE;
            switch (kind) {
                case NOT:
                    return a == UNSURE ? UNSURE : 1 - a;
                case AND:
                    return a == 0 || b == 0 ? 0 : unsure ? UNSURE : 1;
                case OR:
                    return a == 1 || b == 1 ? 1 : unsure ? UNSURE : 0;
                case XOR:
                    return unsure ? UNSURE : a ^ b;
                default:
                    return UNSURE;
            }
        }

        /** Makes a step of the state whose values have just been computed. */
        void tick(Plan plan, State state) {
            boolean odd = (state.count & 1) == 1;
            int ticking = odd ? plan.registers : plan.registers & ~plan.slowRegisters;
            for (int g = 0; g < plan.gates; g++) {
                if ((ticking & bit(g)) != 0) {
                    state.store(g, valueIn(ones, unknowns, plan.firstOf(g)));
                }
            }
            state.count++;
        }
    }

    /**
     * The schedule of a step: for each chip the sets of gates that are there, wanted and coming, and
     * the set of gates that still wait for their sources on their own chips.
     */
    private static final class Schedule {
        private final int[] available = new int[MOST_CHIPS];
        private final int[] wanted = new int[MOST_CHIPS];
        private final int[] coming = new int[MOST_CHIPS];
        private int waiting = 0;
        private int taken = 1;
        private int sent = 0;
        private int lastSent = 0;

        void run(Plan plan, int places, int pins) {
            begin(plan, places);
            for (int slot = 0; slot < MOST_SLOTS; slot++) {
                settle(plan, places);
                if (!sends(plan, pins)) {
                    break;
                }
            }
        }

        int firstSlot(Plan plan, State state, int gate, int chip) {
            begin(plan, state.places);
            for (int slot = 0; slot < MOST_SLOTS; slot++) {
                settle(plan, state.places);
                if ((cell(available, chip) & bit(gate)) != 0) {
                    return slot;
                }
                if (!sends(plan, state.pins)) {
                    break;
                }
            }
            return NONE;
        }

        boolean isBelow(int otherTaken, int otherSent) {
            return taken < otherTaken || taken == otherTaken && sent < otherSent;
        }

        private void begin(Plan plan, int places) {
            taken = 1;
            sent = 0;
            lastSent = 0;
            waiting = plan.all() & ~plan.storing();
            for (int c = 0; c < MOST_CHIPS; c++) {
                available[c] = 0;
                wanted[c] = 0;
            }
            for (int g = 0; g < plan.gates; g++) {
                int chip = chipIn(places, g);
                if ((waiting & bit(g)) == 0) {
                    add(available, chip, g);
                }
                markWanted(places, plan.firstOf(g), chip);
                markWanted(places, plan.secondOf(g), chip);
            }
        }

        /** A source is wanted on all chips on its way to the reader's chip, and there. */
        private void markWanted(int places, int source, int readerChip) {
            if (source == NONE) {
                return;
            }
            int own = chipIn(places, source);
            int last = Math.max(own, readerChip);
            for (int c = Math.min(own, readerChip); c <= last; c++) {
                if (c != own) {
                    add(wanted, c, source);
                }
            }
        }

        private void settle(Plan plan, int places) {
            for (int pass = 0; pass < plan.gates && waiting != 0; pass++) {
                int before = waiting;
                for (int g = 0; g < plan.gates; g++) {
                    int chip = chipIn(places, g);
                    int missing = plan.sourcesOf(g) & ~cell(available, chip);
                    if ((waiting & bit(g)) != 0 && missing == 0) {
                        add(available, chip, g);
                        waiting &= ~bit(g);
                    }
                }
                if (waiting == before) {
                    break;
                }
            }
        }

        private boolean sends(Plan plan, int pins) {
            int all = 0;
            int number = 0;
            for (int c = 0; c < MOST_CHIPS; c++) {
                coming[c] = 0;
            }
            for (int c = 0; c + 1 < plan.chips; c++) {
                int right = offer(c, c + 1, pins);
                int left = offer(c + 1, c, pins);
                setCell(coming, c + 1, cell(coming, c + 1) | right);
                setCell(coming, c, cell(coming, c) | left);
                all |= right | left;
                number += Integer.bitCount(right) + Integer.bitCount(left);
            }
            for (int c = 0; c < MOST_CHIPS; c++) {
                available[c] |= coming[c];
            }
            if (number > 0) {
                taken++;
                sent += number;
                lastSent = all;
            }
            return number > 0;
        }

        private int offer(int from, int to, int pins) {
            return lowestOf(cell(available, from) & ~cell(available, to) & cell(wanted, to), pins);
        }

        private static void add(int[] sets, int index, int gate) {
            setCell(sets, index, cell(sets, index) | bit(gate));
        }
    }

    /** The observations of the board with a stuck gate. */
    private static final class Sightings {
        private final int[] steps = new int[MOST_SIGHTINGS];
        private final int[] gates = new int[MOST_SIGHTINGS];
        private final int[] values = new int[MOST_SIGHTINGS];
        private final int[] truths = new int[MOST_SIGHTINGS];
        private int held = 0;

        boolean add(int n, int gate, int v, int was) {
            if (held >= MOST_SIGHTINGS) {
                return false;
            }
            setCell(steps, held, n);
            setCell(gates, held, gate);
            setCell(values, held, v);
            setCell(truths, held, was);
            held++;
            return true;
        }

        int lastStep() {
            int last = NONE;
            for (int i = 0; i < held; i++) {
                last = Math.max(last, cell(steps, i));
            }
            return last;
        }

        /** Whether all observations after n steps are true; those of gates that are gone count not. */
        boolean agree(int n, Plan plan, Logic logic) {
            for (int i = 0; i < held; i++) {
                int gate = cell(gates, i);
                if (cell(steps, i) == n && gate < plan.gates) {
                    boolean same = valueIn(logic.ones, logic.unknowns, gate) == cell(values, i);
                    if (same != (cell(truths, i) == 1)) {
                        return false;
                    }
                }
            }
            return true;
        }
    }
}
