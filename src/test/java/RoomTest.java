import java.lang.management.ManagementFactory;

/**
 * What a run makes is counted and never given back, so the calls that are made most often must make
 * (nearly) nothing. Bytes are counted here, the bounds being well below the room that a run has.
 */
public final class RoomTest {
    private static final Checks CHECKS = new Checks("RoomTest");
    private static final com.sun.management.ThreadMXBean THREADS =
            (com.sun.management.ThreadMXBean) ManagementFactory.getThreadMXBean();

    public static void main(String[] args) {
        BridgeClub warm = new BridgeClub();
        use(warm);
        BridgeClub x = new BridgeClub();
        long before = made();
        use(x);
        below("deals, tables and results", made() - before, 60_000);

        before = made();
        for (int i = 0; i < 100; i++) {
            x = new BridgeClub();
        }
        below("100 new objects", made() - before, 100 * 2_500);

        Deals.deal(x, Deals.SUITS);
        x.begin(0, 1, 0, 1);
        Deals.calls(x, 0, 3, 0, 0, 0);
        Deals.suitTricks(x, 0, 1, 0, 9);
        before = made();
        for (int i = 0; i < 100; i++) {
            x.best(0);
            x.bestCard(0);
            x.claim(0, 1);
            x.back(0);
            x.play(0, 47);
        }
        below("looking at endings", made() - before, 1_000);

        before = made();
        for (int i = 0; i < 200; i++) {
            x.leave(0);
            x.begin(0, 1, 0, 1);
        }
        below("begin and leave", made() - before, 1_000);
        Deals.calls(x, 0, 0, 0, 0, 0);
        before = made();
        for (int i = 0; i < 100; i++) {
            x.write(0);
            x.place(0);
            x.total(0);
            x.adjust(0, 1, 2);
        }
        below("results", made() - before, 1_000);
        CHECKS.end();
    }

    private static long made() {
        return THREADS.getThreadAllocatedBytes(Thread.currentThread().getId());
    }

    private static void below(String what, long bytes, long bound) {
        CHECKS.yes(what + " made " + bytes + " bytes, the bound is " + bound, bytes < bound);
    }

    /** All boards and tables, and as many results as 512 calls can bring. */
    private static void use(BridgeClub x) {
        for (int b = 1; b <= 36; b++) {
            x.deal(b);
        }
        for (int i = 0; i < 94; i++) {
            Deals.passOut(x, i % 10, 1 + i % 36, i % 20, 20 + (i + i / 36) % 20);
        }
    }
}
