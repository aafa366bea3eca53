import java.lang.management.ManagementFactory;

/** Wild arguments in any state never throw, and calls make no objects once the object stands. */
public final class RoomTest {
    private static final int[] WILD = {Integer.MIN_VALUE, -10, -9, -4, -1, 0, 1, 2, 3, 4, 5, 6, 7, 8, 9, 10, 14, 20, 60,
        89, 90, 99, 100, 255, 256, 1 << 16, Integer.MAX_VALUE};
    private static final String[] BOARDS = {"", "B", "B11", "B41i0n30a201o112x034r140r021i3n18a399",
        "B49r000r111r221r331n04n14a256o311x243i2", "B11n00", "B21a011o100x033r121"};

    private int at = 0;

    private RoomTest() {
    }

    public static void main(String[] args) {
        for (String board : BOARDS) {
            wild(board);
        }
        room();
        Check.finish();
    }

    private int next() {
        at = (int) ((at * 1103515245L + 12345L) & 0x3fffffff);
        return WILD[(at >>> 12) % WILD.length];
    }

    private static void wild(String board) {
        ChipSlots x = new ChipSlots();
        Check.writeAll(x, board);
        x.board();
        RoomTest r = new RoomTest();
        for (int i = 0; i < 4000; i++) {
            try {
                r.everyCall(x);
            } catch (RuntimeException | Error e) {
                Check.isTrue(board + " threw " + e, false);
                return;
            }
        }
    }

    private long everyCall(ChipSlots x) {
        long sum = x.gate(next(), next()) + x.step(next()) + x.input(next(), next()) + x.lay(next(), next());
        sum += x.pins(next()) + x.ahead(next(), next()) + x.round(next()) + x.when(next(), next());
        sum += x.slots(next()) + x.fewest(next()) + x.judge(next(), next() * (long) next());
        sum += x.see(next(), next(), next(), next()) + x.which() + x.share(next(), at % 2 == 0);
        sum += x.fails(next(), next(), next(), next(), at % 2 == 0) + x.seed(next() * (long) next());
        sum += x.drawn(next()) + x.keep(next()) + x.again(next()) + x.count(next());
        sum += x.fault() + x.undo();
        if (at % 31 == 0) {
            sum += x.unsee() + x.board();
        }
        return sum;
    }

    private static void room() {
        com.sun.management.ThreadMXBean threads = (com.sun.management.ThreadMXBean) ManagementFactory.getThreadMXBean();
        long id = Thread.currentThread().getId();
        ChipSlots x = Check.boardOf(BOARDS[3], 10);
        RoomTest r = new RoomTest();
        r.everyCall(x);
        threads.getThreadAllocatedBytes(id);
        long before = threads.getThreadAllocatedBytes(id);
        for (int i = 0; i < 2000; i++) {
            r.everyCall(x);
        }
        long made = threads.getThreadAllocatedBytes(id) - before;
        Check.isTrue("44000 calls made " + made + " bytes of objects", made < 4096);
    }
}
