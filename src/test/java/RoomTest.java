import java.lang.management.ManagementFactory;

/** All calls of a run live in one room, of some 7.3 million fields and elements: one object with its 512 calls fits in. */
public final class RoomTest {
    private static final int RUNS = 50;
    private static final int CALLS = 512;
    private static final long ROOM = 7_300_000L * 4;

    public static void main(String[] args) {
        Check check = new Check("RoomTest");
        com.sun.management.ThreadMXBean threads = (com.sun.management.ThreadMXBean) ManagementFactory.getThreadMXBean();
        long me = Thread.currentThread().getId();
        run();
        long most = 0;
        for (int i = 0; i < RUNS; i++) {
            long before = threads.getThreadAllocatedBytes(me);
            run();
            most = Math.max(most, threads.getThreadAllocatedBytes(me) - before);
        }
        System.out.println("RoomTest: one object and its calls take " + most + " bytes");
        check.due("bytes of one run are at most " + ROOM + ": " + most, most <= ROOM ? 1 : 0, 1);
        check.end();
    }

    private static void run() {
        HedgeChains x = new HedgeChains();
        for (int call = 0; call < CALLS; call += 16) {
            x.contract(call % 6, 5, 3, 2);
            x.take(call / 16 % 2);
            x.append('g');
            x.append('*');
            x.append('9');
            x.read(call % 6);
            x.plant(call % 6, 0);
            x.cut((call + 1) % 6, 3);
            x.lay((call + 1) % 6, 0, 30);
            x.pass(1);
            x.bestOrder(0);
            x.bestOrder(1);
            x.doneIn(5);
            x.field(1, 5);
            x.restore(call / 16 % 2);
            x.undo();
        }
    }
}
