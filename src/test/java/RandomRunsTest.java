import java.util.Random;

/** Long runs of random calls on ChipSlots and on the model, which must answer alike. */
public final class RandomRunsTest {
    private static final int OBJECTS = 1500;
    private static final int CALLS = 512;

    private final Random random;
    private final ChipSlots x = new ChipSlots();
    private final Model model = new Model();
    private final StringBuilder told = new StringBuilder();
    private int calls = 0;

    private RandomRunsTest(long seed) {
        random = new Random(seed);
    }

    public static void main(String[] args) {
        for (int i = 0; i < OBJECTS && Check.wrongSoFar() == 0; i++) {
            new RandomRunsTest(i).run(i);
        }
        Check.finish();
    }

    private void run(int number) {
        int callsPerBoard = number % 4 == 0 ? 12 : 60;
        while (calls < CALLS && Check.wrongSoFar() == 0) {
            if (random.nextInt(callsPerBoard) == 0 || calls == 0) {
                begin();
            } else {
                anyCall();
            }
        }
        if (Check.wrongSoFar() != 0) {
            System.out.println("object " + number + ":" + told);
        }
    }

    private void both(String call, long got, long want) {
        calls++;
        told.append(' ').append(call);
        Check.due(call, got, want);
    }

    private void begin() {
        both("wipe()", x.wipe(), model.wipe());
        String text = random.nextInt(4) == 0 ? spoiled(boardText()) : boardText();
        int length = random.nextInt(10) == 0 ? random.nextInt(text.length() + 1) : text.length();
        for (int i = 0; i < length; i++) {
            int letter = text.charAt(i);
            both("write(" + letter + ")", x.write(letter), model.write(letter));
        }
        both("fault()", x.fault(), model.fault());
        both("board()", x.board(), model.board());
    }

    private String boardText() {
        StringBuilder t = new StringBuilder("B");
        int chips = 1 + random.nextInt(4);
        int gates = random.nextInt(6) == 0 ? random.nextInt(12) : 4 + random.nextInt(7);
        int registerWeight = random.nextInt(4);
        boolean forward = random.nextInt(3) != 0;
        t.append(chips).append(random.nextInt(3) == 0 ? 1 + random.nextInt(9) : 1);
        for (int g = 0; g < gates; g++) {
            int kind = random.nextInt(6 + registerWeight);
            char letter = "inaoxrrrrr".charAt(g == 0 && forward ? 0 : kind);
            t.append(letter).append(random.nextInt(chips));
            int sources = letter == 'i' ? 0 : letter == 'n' || letter == 'r' ? 1 : 2;
            for (int s = 0; s < sources; s++) {
                int bound = forward && random.nextInt(12) != 0 && letter != 'r' ? g : gates;
                t.append(Math.min(9, random.nextInt(Math.max(1, bound))));
            }
            if (letter == 'r') {
                t.append(random.nextInt(2));
            }
        }
        return t.toString();
    }

    private String spoiled(String good) {
        StringBuilder t = new StringBuilder(good);
        int place = random.nextInt(t.length());
        switch (random.nextInt(4)) {
            case 0:
                t.setCharAt(place, (char) random.nextInt(256));
                break;
            case 1:
                t.setCharAt(place, "Binaoxr0123456789".charAt(random.nextInt(17)));
                break;
            case 2:
                t.insert(place, "Binaoxr0123456789".charAt(random.nextInt(17)));
                break;
            default:
                t.deleteCharAt(place);
        }
        return t.toString();
    }

    /** Mostly a number from 0 to most, at times one beside it or an extreme one. */
    private int near(int most) {
        switch (random.nextInt(24)) {
            case 0:
                return -1 - random.nextInt(2);
            case 1:
                return most + 1 + random.nextInt(2);
            case 2:
                return random.nextInt(8) == 0 ? Integer.MIN_VALUE : most;
            case 3:
                return random.nextInt(8) == 0 ? Integer.MAX_VALUE : 0;
            default:
                return random.nextInt(most + 1);
        }
    }

    private int someGate() {
        return near(Math.max(0, model.count(2) - 1));
    }

    private int someChip() {
        return near(Math.max(0, model.count(1) - 1));
    }

    private long someRow(int n) {
        if (random.nextInt(12) == 0) {
            return random.nextInt(2) == 0 ? random.nextLong() : Math.floorMod(random.nextLong(), 2_000_000_000_000L);
        }
        long row = 0;
        for (int i = 0; i < n; i++) {
            row = 1000 * row + someStatement();
        }
        return row;
    }

    private int someStatement() {
        int a = random.nextInt(10);
        int b = random.nextInt(3);
        switch (random.nextInt(8)) {
            case 0:
                return 100 + random.nextInt(100);
            case 1:
                return 200 + 10 * a + b;
            case 2:
                return 300 + 10 * a + random.nextInt(4);
            case 3:
            case 4:
                return 400 + 10 * a + b;
            case 5:
                return 500 + Math.max(0, model.slots(0) + random.nextInt(3) - 1);
            case 6:
                return 600 + random.nextInt(10);
            default:
                return random.nextInt(1000);
        }
    }

    private void anyCall() {
        int a = someGate();
        int c = someChip();
        int n;
        int v;
        switch (random.nextInt(40)) {
            case 0:
            case 1:
                n = near(6);
                both("gate(" + a + ", " + n + ")", x.gate(a, n), model.gate(a, n));
                break;
            case 2:
            case 3:
                n = random.nextInt(3) == 0 ? near(99) : near(4);
                both("step(" + n + ")", x.step(n), model.step(n));
                break;
            case 4:
            case 5:
            case 6:
            case 7:
                v = near(2);
                both("input(" + a + ", " + v + ")", x.input(a, v), model.input(a, v));
                break;
            case 8:
            case 9:
                both("lay(" + a + ", " + c + ")", x.lay(a, c), model.lay(a, c));
                break;
            case 10:
                v = near(9);
                both("pins(" + v + ")", x.pins(v), model.pins(v));
                break;
            case 11:
                both("undo()", x.undo(), model.undo());
                break;
            case 12:
                for (int i = random.nextInt(17); i > 0; i--) {
                    both("undo()", x.undo(), model.undo());
                }
                break;
            case 13:
            case 14:
                n = near(99);
                both("ahead(" + n + ", " + a + ")", x.ahead(n, a), model.ahead(n, a));
                break;
            case 15:
                n = near(1);
                both("round(" + n + ")", x.round(n), model.round(n));
                break;
            case 16:
            case 17:
                both("when(" + a + ", " + c + ")", x.when(a, c), model.when(a, c));
                break;
            case 18:
            case 19:
            case 20:
                n = near(3);
                both("slots(" + n + ")", x.slots(n), model.slots(n));
                break;
            case 21:
                n = random.nextInt(4) == 0 ? near(99) : near(12);
                both("fewest(" + n + ")", x.fewest(n), model.fewest(n));
                break;
            case 22:
            case 23:
            case 24:
                n = near(4);
                long row = someRow(Math.max(0, Math.min(n, 4)));
                both("judge(" + n + ", " + row + ")", x.judge(n, row), model.judge(n, row));
                break;
            default:
                laterCall(a, c);
        }
    }

    private void laterCall(int a, int c) {
        int n;
        int v;
        switch (random.nextInt(15)) {
            case 0:
            case 1:
            case 2:
                n = near(9);
                v = near(2);
                int was = near(1);
                both("see(" + n + ", " + a + ", " + v + ", " + was + ")", x.see(n, a, v, was), model.see(n, a, v, was));
                break;
            case 3:
                both("unsee()", x.unsee(), model.unsee());
                break;
            case 4:
            case 5:
                both("which()", x.which(), model.which());
                break;
            case 6:
                both("share(" + c + ", true)", x.share(c, true), model.share(c, true));
                both("share(" + c + ", false)", x.share(c, false), model.share(c, false));
                break;
            case 7:
            case 8:
                n = near(8);
                v = near(10);
                both("fails(" + a + ", " + c + ", " + n + ", " + v + ", true)",
                    x.fails(a, c, n, v, true), model.fails(a, c, n, v, true));
                both("fails(" + a + ", " + c + ", " + n + ", " + v + ", false)",
                    x.fails(a, c, n, v, false), model.fails(a, c, n, v, false));
                break;
            case 9:
                long s = random.nextInt(2) == 0 ? random.nextLong() : random.nextInt(100);
                both("seed(" + s + ")", x.seed(s), model.seed(s));
                break;
            case 10:
            case 11:
                n = near(20);
                both("drawn(" + n + ")", x.drawn(n), model.drawn(n));
                break;
            case 12:
                n = near(1);
                both("keep(" + n + ")", x.keep(n), model.keep(n));
                break;
            case 13:
                n = near(1);
                both("again(" + n + ")", x.again(n), model.again(n));
                break;
            default:
                n = near(10);
                both("count(" + n + ")", x.count(n), model.count(n));
                if (random.nextInt(9) == 0) {
                    v = random.nextInt(260) - 2;
                    both("write(" + v + ")", x.write(v), model.write(v));
                    both("fault()", x.fault(), model.fault());
                }
        }
    }
}
