import java.lang.management.ManagementFactory;

/** All calls of a run live in one room: what is made is made in the constructor, and no call makes more. */
public final class RoomTest {
    private static final int RUNS = 50;
    private static final int CALLS = 512;

    public static void main(String[] args) {
        Check check = new Check("RoomTest");
        com.sun.management.ThreadMXBean threads = (com.sun.management.ThreadMXBean) ManagementFactory.getThreadMXBean();
        long me = Thread.currentThread().getId();
        run(new HedgeChains());
        threads.getThreadAllocatedBytes(me);
        long most = 0;
        for (int i = 0; i < RUNS; i++) {
            HedgeChains x = new HedgeChains();
            long before = threads.getThreadAllocatedBytes(me);
            run(x);
            most = Math.max(most, threads.getThreadAllocatedBytes(me) - before);
        }
        // Asking for the number may itself make a little; an array a call would be far more.
        check.due("512 calls make less than 4096 bytes (" + most + ")", most < 4096 ? 1 : 0, 1);
        check.end();
    }

    private static void run(HedgeChains x) {
        for (int call = 0; call < CALLS; call += 16) {
            x.contract(call % 6, 5, 3, 2);
            x.take(call / 16 % 2);
            x.append('g');
            x.append('*');
            x.append('9');
            x.read(call % 6);
            x.plant(call % 6, 0);
            x.cut((call + 1) % 6, 3);
            x.lay((call + 1) % 6, 0, 30);
            x.pass(1);
            x.bestOrder(0);
            x.bestOrder(1);
            x.doneIn(5);
            x.field(1, 5);
            x.restore(call / 16 % 2);
            x.undo();
        }
    }
}
