import java.lang.management.ManagementFactory;

/** All calls of one run share a room of 600000 objects and 7.3 million elements: the dearest runs take a small part of it. */
public final class Room {
    private static final Check T = new Check("Room");
    private static final int CALLS = 512;

    public static void main(String[] args) {
        com.sun.management.ThreadMXBean threads = (com.sun.management.ThreadMXBean) ManagementFactory.getThreadMXBean();
        for (int round = 0; round < 2; round++) {
            long before = threads.getCurrentThreadAllocatedBytes();
            int minutes = ever();
            long bytes = threads.getCurrentThreadAllocatedBytes() - before;
            T.is("so many minutes are kept", () -> minutes > 9000, true);
            T.is("most rollups of 512 calls: bytes below 2 million, not " + bytes, () -> bytes < 2000000, true);
            before = threads.getCurrentThreadAllocatedBytes();
            writeAndErase();
            long again = threads.getCurrentThreadAllocatedBytes() - before;
            T.is("rows are used again: bytes below 20000, not " + again, () -> again < 20000, true);
        }
        T.end();
    }

    /** As many rollups as 512 calls can write, all kept. */
    private static int ever() {
        RollupStore x = new RollupStore();
        for (int series = 0; series < 4; series++) {
            x.addSeries(RollupStore.GAUGE);
        }
        x.setRetention(RollupStore.MINUTES, 100000000);
        int calls = 5;
        while (calls < CALLS) {
            x.advance(7260);
            calls++;
            for (int call = 0; call < 12 && calls < CALLS; call++, calls++) {
                x.putMany(call / 3, x.clock() - 3600 + call % 3 * 1200, call, 60, 1, 20);
            }
        }
        int minutes = 0;
        for (int series = 0; series < 4; series++) {
            minutes += x.rows(series, RollupStore.MINUTES);
        }
        return minutes;
    }

    private static void writeAndErase() {
        RollupStore x = new RollupStore();
        x.addSeries(RollupStore.GAUGE);
        for (int call = 0; call < CALLS / 3; call++) {
            x.advance(86400);
            x.put(0, x.clock(), call);
            x.erase(0, x.clock());
        }
    }
}
