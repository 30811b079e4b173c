import java.lang.management.ManagementFactory;

/**
 * All calls of one run have room for some 600,000 objects and arrays with 7.3 million fields and elements.
 * No object is smaller than 16 bytes and none of the class's fields and elements smaller than 4, so a run
 * that made less than 16 bytes for each object, 9.6 million, has kept to both.
 */
public final class RoomTest {
    private static final long MOST_BYTES = 600000L * 16;
    private static final int CALLS = 512;

    public static void main(String[] args) {
        keepsToTheRoom("a graph filled in few calls, then questions", RoomTest::fewLargeEdits);
        keepsToTheRoom("as many edits as there are calls", RoomTest::manySmallEdits);
        keepsToTheRoom("edits that are refused on a full graph", RoomTest::refusedEdits);
        Check.end();
    }

    private static void keepsToTheRoom(String what, Runnable run) {
        long before = allocated();
        run.run();
        long made = allocated() - before;
        Check.same(what + ": " + made + " bytes are few", made > 0 && made < MOST_BYTES ? 1 : 0, 1);
    }

    private static long allocated() {
        return ManagementFactory.getPlatformMXBean(com.sun.management.ThreadMXBean.class)
                .getThreadAllocatedBytes(Thread.currentThread().getId());
    }

    private static void fewLargeEdits() {
        WeaveCore x = Check.full();
        for (int calls = 166; calls + 6 <= CALLS; calls += 6) {
            x.heads();
            x.seen();
            x.at(8191);
            x.wasAt(8192, 8191);
            x.spot(2, 0);
            x.line(-1);
        }
    }

    private static void manySmallEdits() {
        WeaveCore x = new WeaveCore();
        for (int calls = 0; calls < CALLS; calls += 2) {
            x.heads();
            x.insert(calls % 16, 0, 'a', 32);
        }
    }

    private static void refusedEdits() {
        WeaveCore x = Check.full();
        for (int calls = 166; calls < CALLS; calls += 2) {
            x.heads();
            Check.fails("one more", IllegalStateException.class, () -> x.insert(2, 8192, 'x', 1));
        }
    }
}
