import java.lang.management.ManagementFactory;

/** All calls of a run live in one room: calls make no objects, and a new object is small. */
public final class RoomTest {
    private static final com.sun.management.ThreadMXBean THREADS =
        (com.sun.management.ThreadMXBean) ManagementFactory.getThreadMXBean();
    private static int sum = 0;

    public static void main(String[] args) {
        long thread = Thread.currentThread().getId();
        OddColumns x = new OddColumns();
        callAll(x, 3);
        long before = THREADS.getThreadAllocatedBytes(thread);
        callAll(x, 10);
        long calls = THREADS.getThreadAllocatedBytes(thread) - before;
        before = THREADS.getThreadAllocatedBytes(thread);
        sum += new OddColumns().about(0);
        long made = THREADS.getThreadAllocatedBytes(thread) - before;
        System.out.println("RoomTest: calls made " + calls + " bytes, an object has " + made);
        if (calls > 5000 || made > 100000 || sum == 0) {
            System.exit(1);
        }
    }

    private static void callAll(OddColumns x, int rounds) {
        for (int round = 0; round < rounds; round++) {
            // "data 24;checks 8;way" " paired;pairs;      " "word 3 9;column 0 7;"
            sum += x.feed(0x64617461, 0x2032343B, 0x63686563, 0x6B732038, 0x3B776179);
            sum += x.feed(0x20706169, 0x7265643B, 0x70616972, 0x733B2020, 0x20202020);
            sum += x.feed(0x776F7264, 0x20332039, 0x3B636F6C, 0x756D6E20, 0x3020373B);
            sum += x.end(60);
            sum += x.code();
            sum += x.fault(0);
            acts(x);
            looks(x);
        }
    }

    private static void acts(OddColumns x) {
        sum += x.write(0, 5) ? 1 : 0;
        sum += x.part(0, 3, 1);
        sum += x.mend(0);
        sum += x.scrub();
        sum += x.slip(1, 2);
        sum += x.burst(2, 2, 8) ? 1 : 0;
        sum += x.storm(1, 200, 1);
        sum += x.stick(3, 3, 1) ? 1 : 0;
        sum += x.free(3);
        sum += x.column(0, 127) ? 1 : 0;
        sum += x.swap(0, 1) ? 1 : 0;
        sum += x.way(1) ? 1 : 0;
        sum += x.pairs(false) ? 1 : 0;
        sum += x.better();
        sum += x.undo() ? 1 : 0;
        sum += x.redo() ? 1 : 0;
        sum += x.image(0);
        sum += x.back(0);
    }

    private static void looks(OddColumns x) {
        sum += x.columnOf(0) + x.row(0, 1) + x.rows(2) + x.word(0, 4) + x.reading(0, 3);
        sum += x.stuck(0, 0) + x.stands(0, 0) + x.find(7, 1) + x.threes(0) + x.fours() + x.twos(0);
        sum += x.change(0) + x.gates(3) + x.shared(0, 0) + x.chip(NONE, 0) + x.exchange(0);
        sum += x.fewest(9) + x.columns(3, 1) + x.would(1, 200, 1) + x.worst(100, 1, 0);
        sum += x.interval(1, 200) + x.tally(0) + x.about(4);
    }

    private static final int NONE = OddColumns.NONE;
}
