import java.lang.management.ManagementFactory;

/** All calls of a run live in one room: a call may make no object but the exception that it throws. */
public final class RoomTest {
    private static int wrong = 0;

    private interface Calls {
        int answer(TrailStore s, int n);
    }

    private static long made() {
        return ((com.sun.management.ThreadMXBean) ManagementFactory.getThreadMXBean())
                .getThreadAllocatedBytes(Thread.currentThread().getId());
    }

    private static void due(String what, Calls calls) {
        TrailStore s = new TrailStore();
        s.sign(0x76237723);
        s.end(3);
        s.posts();
        int sum = 0;
        for (int n = 0; n < 60; n++) {
            sum += calls.answer(s, n);
        }
        long before = made();
        for (int n = 0; n < 60; n++) {
            sum += calls.answer(s, n);
        }
        long bytes = made() - before;
        if (bytes > 4000) {
            wrong++;
            System.out.println(what + " made " + bytes + " bytes in 60 calls (" + sum + ")");
        }
    }

    public static void main(String[] args) {
        due("solutions", (s, n) -> s.many() + s.nth(500) + s.always() + s.best() + s.shadows(7) + s.mends());
        due("spreading", (s, n) -> s.spreads() + s.probes() + s.leaves(0, 0) + s.culprits() + s.why(0, 0) + s.search(n % 3));
        due("which it was", (s, n) -> s.heard(0, n % 6, 0) + s.fits() + s.asks() + s.forget());
        due("years", (s, n) -> s.years(n, 40));
        due("levels", (s, n) -> s.opens() + s.sets(n % 6, n) + s.trail(1) + s.would(0) + s.between(1, 1) + s.since(0)
                + s.commits() + s.opens() + s.puts(n % 10, n) + s.back(0));
        due("runs", (s, n) -> s.sign(0x7B413D30) + s.sign(0x317C7029) + s.run() + s.sign(0x28413D30) + s.sign(0x31702929)
                + s.run() + s.sign(0x7623773B) + s.posts());
        due("kept", (s, n) -> (s.keep(n % 2) ? 1 : 0) + s.differs(0) + (s.again(0) ? 1 : 0) + s.sheet(n % 4, 5, n, n));
        long before = made();
        TrailStore made = new TrailStore();
        long bytes = made() - before;
        if (bytes > 40000 || made.count(0) != 0) {
            wrong++;
            System.out.println("a new object is of " + bytes + " bytes");
        }
        System.out.println(wrong == 0 ? "calls make no objects; a new one is of " + bytes + " bytes" : "calls make objects");
        if (wrong != 0) {
            System.exit(1);
        }
    }
}
