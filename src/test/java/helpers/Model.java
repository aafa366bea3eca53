import java.math.BigInteger;
import java.util.ArrayDeque;
import java.util.ArrayList;
import java.util.Arrays;
import java.util.Deque;
import java.util.List;
import java.util.regex.Matcher;
import java.util.regex.Pattern;

/**
 * The document's words once more, said as literally and as wastefully as possible (orders are
 * listed, failing slots are listed, loops are walked), to be compared with ChipSlots.
 */
final class Model {
    static final class Gate {
        char letter;
        int first = -1;
        int second = -1;
        int clock = -1;

        boolean stores() {
            return letter == 'i' || letter == 'r';
        }

        boolean reads(int source) {
            return first == source || second == source;
        }

        List<Integer> sources() {
            List<Integer> result = new ArrayList<>();
            if (first >= 0) {
                result.add(first);
            }
            if (second >= 0) {
                result.add(second);
            }
            return result;
        }
    }

    static final class Situation {
        int[] stored = new int[10];
        int[] chip = new int[10];
        int pins = 1;
        int count = 0;

        Situation another() {
            Situation s = new Situation();
            s.stored = stored.clone();
            s.chip = chip.clone();
            s.pins = pins;
            s.count = count;
            return s;
        }
    }

    /** A schedule by slots: who is available where, for each slot that something could be sent in. */
    final class Timetable {
        int slotsTaken = 1;
        int sentInAll = 0;
        int greatestAtLast = -9;
        boolean[][] there = new boolean[10][4];
        final Situation s;

        Timetable(Situation s) {
            this.s = s;
            for (int g = 0; g < gates.size(); g++) {
                if (gates.get(g).stores()) {
                    there[g][s.chip[g]] = true;
                }
            }
        }

        void partOne() {
            boolean again = true;
            while (again) {
                again = false;
                for (int g = 0; g < gates.size(); g++) {
                    if (gates.get(g).stores() || there[g][s.chip[g]]) {
                        continue;
                    }
                    boolean ready = true;
                    for (int source : gates.get(g).sources()) {
                        ready = ready && there[source][s.chip[g]];
                    }
                    if (ready) {
                        there[g][s.chip[g]] = true;
                        again = true;
                    }
                }
            }
        }

        boolean wanted(int gate, int place) {
            int own = s.chip[gate];
            if (place == own) {
                return false;
            }
            for (int g = 0; g < gates.size(); g++) {
                if (!gates.get(g).reads(gate)) {
                    continue;
                }
                int reader = s.chip[g];
                boolean beyond = own < place ? reader > place : reader < place;
                if (reader == place || beyond) {
                    return true;
                }
            }
            return false;
        }

        /** Part 2 of a slot; whether something was sent. */
        boolean partTwo() {
            List<int[]> sendings = new ArrayList<>();
            for (int from = 0; from < chips; from++) {
                for (int to = 0; to < chips; to++) {
                    if (Math.abs(from - to) != 1) {
                        continue;
                    }
                    int used = 0;
                    for (int g = 0; g < gates.size() && used < s.pins; g++) {
                        if (there[g][from] && !there[g][to] && wanted(g, to)) {
                            sendings.add(new int[] {g, to});
                            used++;
                        }
                    }
                }
            }
            if (sendings.isEmpty()) {
                return false;
            }
            slotsTaken++;
            sentInAll += sendings.size();
            greatestAtLast = -9;
            for (int[] sending : sendings) {
                there[sending[0]][sending[1]] = true;
                greatestAtLast = Math.max(greatestAtLast, sending[0]);
            }
            return true;
        }

        Timetable whole() {
            do {
                partOne();
            } while (partTwo());
            return this;
        }
    }

    static final class Act {
        final Situation before;

        Act(Situation before) {
            this.before = before;
        }
    }

    private StringBuilder text = new StringBuilder();
    private int chips = 1;
    private List<Gate> gates = new ArrayList<>();
    private Situation now = new Situation();
    private final Deque<Act> acts = new ArrayDeque<>();
    private final List<int[]> observations = new ArrayList<>();
    private final Situation[] kept = new Situation[2];
    private final boolean[][] loopedByStuck = new boolean[11][];
    private long seed = 0;

    private boolean noGate(int g) {
        return g < 0 || g >= gates.size();
    }

    private boolean noChip(int c) {
        return c < 0 || c >= chips;
    }

    int write(int letter) {
        if (letter < 0 || letter > 255) {
            return -2;
        }
        if (text.length() == 90) {
            return -4;
        }
        text.append((char) letter);
        return text.length();
    }

    int wipe() {
        int had = text.length();
        text = new StringBuilder();
        return had;
    }

    private static Pattern grammar(char number) {
        String c = "[0-" + (char) (number - 1) + "]";
        String gate = "(?:i" + c + "|n" + c + "[0-9]|[aox]" + c + "[0-9][0-9]|r" + c + "[0-9][01])";
        return Pattern.compile("B" + number + "[1-9]" + gate + "{0,10}", Pattern.DOTALL);
    }

    private static boolean canGoOn(String start) {
        if (start.length() < 2) {
            return Pattern.compile("B?").matcher(start).matches();
        }
        if (start.charAt(1) < '1' || start.charAt(1) > '4') {
            return false;
        }
        Matcher m = grammar(start.charAt(1)).matcher(start);
        return m.matches() || m.hitEnd();
    }

    int fault() {
        String t = text.toString();
        for (int i = 0; i < t.length(); i++) {
            if (!canGoOn(t.substring(0, i + 1))) {
                return i;
            }
        }
        if (t.length() < 3 || !grammar(t.charAt(1)).matcher(t).matches()) {
            return t.length();
        }
        List<Gate> told = parse(t);
        for (Gate g : told) {
            for (int source : g.sources()) {
                if (source >= told.size()) {
                    return t.length();
                }
            }
        }
        return -9;
    }

    private static List<Gate> parse(String t) {
        List<Gate> told = new ArrayList<>();
        Matcher m = Pattern.compile("[inaoxr][0-9]+").matcher(t);
        while (m.find()) {
            String g = m.group();
            Gate gate = new Gate();
            gate.letter = g.charAt(0);
            if (gate.letter != 'i') {
                gate.first = g.charAt(2) - '0';
            }
            if ("aox".indexOf(gate.letter) >= 0) {
                gate.second = g.charAt(3) - '0';
            }
            if (gate.letter == 'r') {
                gate.clock = g.charAt(3) - '0';
            }
            told.add(gate);
        }
        return told;
    }

    int board() {
        if (fault() != -9) {
            return -3;
        }
        String t = text.toString();
        gates = parse(t);
        Arrays.fill(loopedByStuck, null);
        chips = t.charAt(1) - '0';
        now = new Situation();
        now.pins = t.charAt(2) - '0';
        Matcher m = Pattern.compile("[inaoxr]([0-9])").matcher(t);
        for (int g = 0; m.find(); g++) {
            now.chip[g] = m.group(1).charAt(0) - '0';
        }
        acts.clear();
        Arrays.fill(kept, null);
        return gates.size();
    }

    int gate(int g, int what) {
        if (noGate(g)) {
            return -1;
        }
        Gate gate = gates.get(g);
        switch (what) {
            case 0:
                return "inaoxr".indexOf(gate.letter);
            case 1:
                return now.chip[g];
            case 2:
                return gate.first < 0 ? -9 : gate.first;
            case 3:
                return gate.second < 0 ? -9 : gate.second;
            case 4:
                return gate.clock < 0 ? -9 : gate.clock;
            case 5:
                return value(now, g, -1);
            case 6:
                int set = 0;
                for (int h = 0; h < gates.size(); h++) {
                    if (gates.get(h).reads(g)) {
                        set += 1 << h;
                    }
                }
                return set;
            default:
                return -2;
        }
    }

    private boolean computes(int g, int stuck) {
        return g != stuck && !gates.get(g).stores();
    }

    /** For each gate whether it is in a loop of computing gates, or depends on one through such. */
    private boolean[] findLooped(int stuck) {
        int n = gates.size();
        boolean[][] leads = new boolean[n][n];
        for (int a = 0; a < n; a++) {
            for (int b : gates.get(a).sources()) {
                leads[a][b] = computes(a, stuck) && computes(b, stuck);
            }
        }
        for (int through = 0; through < n; through++) {
            for (int a = 0; a < n; a++) {
                for (int b = 0; b < n; b++) {
                    leads[a][b] |= leads[a][through] && leads[through][b];
                }
            }
        }
        boolean[] result = new boolean[n];
        for (int a = 0; a < n; a++) {
            for (int b = 0; b < n; b++) {
                result[a] |= (a == b || leads[a][b]) && leads[b][b];
            }
        }
        return result;
    }

    private boolean looped(int g, int stuck) {
        if (loopedByStuck[stuck + 1] == null) {
            loopedByStuck[stuck + 1] = findLooped(stuck);
        }
        return loopedByStuck[stuck + 1][g];
    }

    int value(Situation s, int g, int stuck) {
        if (g == stuck) {
            return 0;
        }
        Gate gate = gates.get(g);
        if (gate.stores()) {
            return s.stored[g];
        }
        if (looped(g, stuck)) {
            return 2;
        }
        int a = value(s, gate.first, stuck);
        int b = gate.second < 0 ? a : value(s, gate.second, stuck);
        if (gate.letter == 'a' && (a == 0 || b == 0)) {
            return 0;
        }
        if (gate.letter == 'o' && (a == 1 || b == 1)) {
            return 1;
        }
        if (a == 2 || b == 2) {
            return 2;
        }
        switch (gate.letter) {
            case 'n':
                return a == 0 ? 1 : 0;
            case 'a':
                return 1;
            case 'o':
                return 0;
            default:
                return a == b ? 0 : 1;
        }
    }

    private void oneStep(Situation s, int stuck) {
        int[] after = s.stored.clone();
        for (int g = 0; g < gates.size(); g++) {
            Gate gate = gates.get(g);
            if (gate.letter == 'r' && (gate.clock == 0 || s.count % 2 == 1)) {
                after[g] = value(s, gate.first, stuck);
            }
        }
        s.stored = after;
        s.count++;
    }

    private Situation after(Situation s, int n, int stuck) {
        Situation result = s.another();
        for (int i = 0; i < n; i++) {
            oneStep(result, stuck);
        }
        return result;
    }

    private void act() {
        acts.push(new Act(now.another()));
        if (acts.size() > 14) {
            acts.removeLast();
        }
    }

    int step(int n) {
        if (n < 1 || n > 99) {
            return -2;
        }
        act();
        now = after(now, n, -1);
        return now.count;
    }

    int input(int g, int v) {
        if (noGate(g)) {
            return -1;
        }
        if (gates.get(g).letter != 'i') {
            return -3;
        }
        if (v < 0 || v > 2) {
            return -2;
        }
        act();
        int was = now.stored[g];
        now.stored[g] = v;
        return was;
    }

    int lay(int g, int chip) {
        if (noGate(g) || noChip(chip)) {
            return -1;
        }
        if (now.chip[g] == chip) {
            return -3;
        }
        act();
        int was = now.chip[g];
        now.chip[g] = chip;
        return was;
    }

    int pins(int v) {
        if (v < 1 || v > 9) {
            return -2;
        }
        act();
        int was = now.pins;
        now.pins = v;
        return was;
    }

    int undo() {
        if (acts.isEmpty()) {
            return -3;
        }
        now = acts.pop().before;
        return acts.size();
    }

    int ahead(int n, int g) {
        if (n < 0 || n > 99) {
            return -2;
        }
        if (noGate(g)) {
            return -1;
        }
        return value(after(now, n, -1), g, -1);
    }

    int round(int what) {
        if (what != 0 && what != 1) {
            return -2;
        }
        List<String> seen = new ArrayList<>();
        Situation s = now.another();
        for (int i = 0; i <= 120; i++) {
            StringBuilder all = new StringBuilder();
            for (int g = 0; g < gates.size(); g++) {
                all.append(value(s, g, -1));
            }
            seen.add(all.append(s.count % 2 == 0 ? "even" : "odd").toString());
            oneStep(s, -1);
        }
        for (int n = 0; n <= 60; n++) {
            for (int m = 1; m <= 60; m++) {
                if (seen.get(n).equals(seen.get(n + m))) {
                    return what == 0 ? n : m;
                }
            }
        }
        return -9;
    }

    int when(int g, int chip) {
        if (noGate(g) || noChip(chip)) {
            return -1;
        }
        Timetable t = new Timetable(now);
        for (int slot = 0; slot < 100; slot++) {
            t.partOne();
            if (t.there[g][chip]) {
                return slot;
            }
            t.partTwo();
        }
        return -9;
    }

    int slots(int what) {
        Timetable t = new Timetable(now).whole();
        switch (what) {
            case 0:
                return t.slotsTaken;
            case 1:
                return t.sentInAll;
            case 2:
                return t.greatestAtLast;
            case 3:
                return bestMove(t);
            default:
                return -2;
        }
    }

    private int bestMove(Timetable asItIs) {
        int best = 100;
        int bestCost = 1000 * asItIs.slotsTaken + asItIs.sentInAll;
        for (int g = 0; g < gates.size(); g++) {
            for (int c = 0; c < chips; c++) {
                Situation s = now.another();
                s.chip[g] = c;
                Timetable t = new Timetable(s).whole();
                int cost = 1000 * t.slotsTaken + t.sentInAll;
                if (cost < bestCost) {
                    best = 10 * g + c;
                    bestCost = cost;
                }
            }
        }
        return best;
    }

    int fewest(int n) {
        if (n < 1 || n > 99) {
            return -2;
        }
        for (int p = 1; p <= 9; p++) {
            Situation s = now.another();
            s.pins = p;
            if (new Timetable(s).whole().slotsTaken <= n) {
                return p;
            }
        }
        return -9;
    }

    int judge(int n, long row) {
        if (n < 1 || n > 4 || row < 0 || Long.toString(row).length() > 3 * n) {
            return -2;
        }
        String digits = Long.toString(row);
        while (digits.length() < 3 * n) {
            digits = "0" + digits;
        }
        Situation s = now.another();
        for (int i = 0; i < n; i++) {
            int k = digits.charAt(3 * i) - '0';
            int a = digits.charAt(3 * i + 1) - '0';
            int b = digits.charAt(3 * i + 2) - '0';
            boolean right;
            switch (k) {
                case 1:
                    right = a + b > 0;
                    s = after(s, 10 * a + b, -1);
                    break;
                case 2:
                    right = !noGate(a) && gates.get(a).letter == 'i' && b <= 2;
                    if (right) {
                        s.stored[a] = b;
                    }
                    break;
                case 3:
                    right = !noGate(a) && !noChip(b) && s.chip[a] != b;
                    if (right) {
                        s.chip[a] = b;
                    }
                    break;
                case 4:
                    right = !noGate(a) && value(s, a, -1) == b;
                    break;
                case 5:
                    right = new Timetable(s).whole().slotsTaken == 10 * a + b;
                    break;
                case 6:
                    right = a == 0 && b != 0;
                    s.pins = Math.max(b, 1);
                    break;
                default:
                    right = false;
            }
            if (!right) {
                return i;
            }
        }
        return -9;
    }

    int see(int n, int g, int v, int was) {
        if (noGate(g)) {
            return -1;
        }
        if (n < 0 || n > 9 || v < 0 || v > 2 || was < 0 || was > 1) {
            return -2;
        }
        if (observations.size() == 6) {
            return -4;
        }
        observations.add(new int[] {n, g, v, was});
        return observations.size();
    }

    int unsee() {
        int had = observations.size();
        observations.clear();
        return had;
    }

    int which() {
        int set = 0;
        for (int g = 0; g < gates.size(); g++) {
            boolean all = true;
            for (int[] o : observations) {
                if (!noGate(o[1])) {
                    int v = value(after(now, o[0], g), o[1], g);
                    all = all && (v == o[2]) == (o[3] == 1);
                }
            }
            if (all) {
                set += 1 << g;
            }
        }
        return set;
    }

    private boolean works(int g, boolean[] come) {
        boolean[] needed = new boolean[10];
        needed[g] = true;
        for (int pass = 0; pass < 10; pass++) {
            for (int h = 0; h < gates.size(); h++) {
                if (needed[h]) {
                    for (int source : gates.get(h).sources()) {
                        needed[source] = true;
                    }
                }
            }
        }
        for (int h = 0; h < gates.size(); h++) {
            if (needed[h] && !come[now.chip[h]]) {
                return false;
            }
        }
        return true;
    }

    private int working(boolean[] come) {
        int number = 0;
        for (int g = 0; g < gates.size(); g++) {
            if (works(g, come)) {
                number++;
            }
        }
        return number;
    }

    /** The sum over all orders of the chips that are still to come, and the number of orders. */
    private int[] overOrders(boolean[] come, int arrived, int chip) {
        if (arrived == chips) {
            return new int[] {0, 1};
        }
        int[] sum = new int[2];
        for (int c = 0; c < chips; c++) {
            if (come[c]) {
                continue;
            }
            int before = working(come);
            come[c] = true;
            int gain = c == chip ? working(come) - before : 0;
            int[] rest = overOrders(come, arrived + 1, chip);
            come[c] = false;
            sum[0] += rest[0] + gain * rest[1];
            sum[1] += rest[1];
        }
        return sum;
    }

    private static int part(long top, long bottom, boolean upper) {
        BigInteger a = BigInteger.valueOf(top);
        BigInteger b = BigInteger.valueOf(bottom);
        BigInteger d = a.gcd(b);
        return (upper ? a : b).divide(d).intValueExact();
    }

    int share(int chip, boolean upper) {
        if (noChip(chip)) {
            return -1;
        }
        int[] sum = overOrders(new boolean[4], 0, chip);
        return part(sum[0], sum[1], upper);
    }

    int fails(int g, int chip, int n, int x, boolean upper) {
        if (noGate(g) || noChip(chip)) {
            return -1;
        }
        if (n < 0 || n > 8 || x < 0 || x > 10) {
            return -2;
        }
        long top = 0;
        long bottom = 1;
        for (int i = 0; i < n; i++) {
            bottom *= 10;
        }
        for (int failing = 0; failing < 1 << n; failing++) {
            long weight = 1;
            Timetable t = new Timetable(now);
            for (int slot = 0; slot < n; slot++) {
                t.partOne();
                if ((failing >> slot & 1) == 1) {
                    weight *= x;
                } else {
                    weight *= 10 - x;
                    t.partTwo();
                }
            }
            t.partOne();
            if (t.there[g][chip]) {
                top += weight;
            }
        }
        return part(top, bottom, upper);
    }

    long seed(long v) {
        long was = seed;
        seed = v;
        return was;
    }

    int drawn(int m) {
        if (m < 1 || m > 20) {
            return -2;
        }
        Situation s = now.another();
        int sum = 0;
        for (int i = 0; i < m; i++) {
            seed = seed * 6364136223846793005L + 1442695040888963407L;
            int v = (int) (seed >>> 33);
            int k = 0;
            for (int g = 0; g < gates.size(); g++) {
                if (gates.get(g).letter == 'i') {
                    s.stored[g] = (v & 1 << k) != 0 ? 1 : 0;
                    k++;
                }
            }
            oneStep(s, -1);
            for (int g = 0; g < gates.size(); g++) {
                if (gates.get(g).letter == 'r' && s.stored[g] == 1) {
                    sum++;
                }
            }
        }
        return sum;
    }

    int keep(int slot) {
        if (slot != 0 && slot != 1) {
            return -1;
        }
        kept[slot] = now.another();
        return now.count;
    }

    int again(int slot) {
        if (slot != 0 && slot != 1) {
            return -1;
        }
        if (kept[slot] == null) {
            return -3;
        }
        now = kept[slot].another();
        acts.clear();
        return now.count;
    }

    private int setOfLetter(char letter) {
        int set = 0;
        for (int g = 0; g < gates.size(); g++) {
            if (gates.get(g).letter == letter) {
                set += 1 << g;
            }
        }
        return set;
    }

    private int setOfValue(int v) {
        int set = 0;
        for (int g = 0; g < gates.size(); g++) {
            if (value(now, g, -1) == v) {
                set += 1 << g;
            }
        }
        return set;
    }

    int count(int what) {
        switch (what) {
            case 0:
                return text.length();
            case 1:
                return chips;
            case 2:
                return gates.size();
            case 3:
                return now.pins;
            case 4:
                return now.count;
            case 5:
                return setOfLetter('i');
            case 6:
                return setOfLetter('r');
            case 7:
                return setOfValue(1);
            case 8:
                return setOfValue(2);
            case 9:
                return acts.size();
            case 10:
                return observations.size();
            default:
                return -2;
        }
    }
}
