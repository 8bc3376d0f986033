import java.lang.management.ManagementFactory;

/** All calls of a run live in one room, of 7.3 million elements: 512 calls of any method stay far below it. */
public final class RoomTest {
    private static final int CALLS = 512;
    private static final long MOST_BYTES = 20_000_000;

    private final Check check = new Check();
    private final com.sun.management.ThreadMXBean made =
        (com.sun.management.ThreadMXBean) ManagementFactory.getThreadMXBean();

    public static void main(String[] args) {
        RoomTest test = new RoomTest();
        BentGardens gardens = new BentGardens();
        gardens.garden(8, 8);
        gardens.keep(1);
        test.little("digest", () -> gardens.digest());
        test.little("ways", () -> gardens.ways());
        test.little("waysWith", () -> gardens.waysWith(2, 0, 0));
        test.little("bestPond", () -> gardens.bestPond());
        test.little("pond", () -> gardens.pond(1, 0));
        test.little("wall", () -> gardens.wall(7, 7));
        test.little("lay, refused", () -> gardens.lay(1, 0, 1));
        test.little("keep", () -> gardens.keep(1));
        test.little("goBack", () -> gardens.goBack(1));
        test.little("fill and undo", () -> test.undone(gardens, () -> gardens.fill()));
        test.little("halve and undo", () -> test.undone(gardens, () -> gardens.halve()));
        test.little("garden", () -> gardens.garden(8, 8));
        test.little("a text that is read", () -> read(gardens));
        test.check.end();
    }

    private void undone(BentGardens gardens, Runnable call) {
        call.run();
        check.due("undo", 5, gardens.undo());
    }

    private static void read(BentGardens gardens) {
        Told.append(gardens, "o./..");
        gardens.firstError();
        gardens.load();
    }

    private void little(String call, Runnable body) {
        long before = made.getThreadAllocatedBytes(Thread.currentThread().getId());
        for (int time = 0; time < CALLS; time++) {
            body.run();
        }
        long bytes = made.getThreadAllocatedBytes(Thread.currentThread().getId()) - before;
        check.due(CALLS + " times " + call + ": in the room", 1, bytes <= MOST_BYTES ? 1 : 0);
    }
}
