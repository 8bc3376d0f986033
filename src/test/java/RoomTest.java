import java.lang.management.ManagementFactory;

/** All calls of a run live in one room: 512 calls of any method together make little. */
public final class RoomTest {
    private static final long MOST_BYTES = 2_000_000;

    private final Check check = new Check();
    private final com.sun.management.ThreadMXBean made =
        (com.sun.management.ThreadMXBean) ManagementFactory.getThreadMXBean();

    public static void main(String[] args) {
        RoomTest test = new RoomTest();
        BentGardens first = new BentGardens();
        first.garden(8, 8);
        test.little("digest", () -> first.digest());
        test.little("bestPond", () -> first.bestPond());
        test.little("pond", () -> first.pond(1, 0));
        test.little("keep", () -> first.keep(1));
        test.little("goBack", () -> first.goBack(1));
        test.little("fill", () -> first.fill());
        test.little("lay", () -> first.lay(0, 0, 0));
        test.little("new objects", RoomTest::someObjects);
        test.check.end();
    }

    private static void someObjects() {
        int objects = 0;
        for (int x = 0; x < 10; x++) {
            objects += new BentGardens().count(0);
        }
        if (objects != 40) {
            throw new IllegalStateException();
        }
    }

    private void little(String call, Runnable body) {
        int times = call.startsWith("new") ? 1 : 512;
        long before = made.getThreadAllocatedBytes(Thread.currentThread().getId());
        for (int time = 0; time < times; time++) {
            body.run();
        }
        long bytes = made.getThreadAllocatedBytes(Thread.currentThread().getId()) - before;
        check.due("512 times " + call + ": in the room", 1, bytes <= MOST_BYTES ? 1 : 0);
    }
}
