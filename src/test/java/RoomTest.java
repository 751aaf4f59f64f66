import java.lang.management.ManagementFactory;

/** All that a run makes lives in one room: a call makes nothing, and a new object only a few rows. */
final class RoomTest {

    private static final String HARD = "wide 40;set 3 9;set 0 8;set 1 1;";

    public static void main(String[] args) {
        DotRuns x = new DotRuns();
        StringBuilder text = new StringBuilder(HARD);
        for (int i = 0; i < 20; i++) {
            text.append(i % 2 == 0 ? "alone 0 1 1 1 1 1 2 1 1 1 30;" : "alone 1 1 1 1 1 1 1 3 30;");
        }
        Calls.load(x, text.toString());
        for (int line = 0; line < 20; line++) {
            x.lose(line, 5);
        }
        x.save(0);
        x.save(1);
        use(x);
        long before = made();
        use(x);
        long calls = made() - before;
        Check.due("bytes that 400 calls make, " + calls + ", are few", calls < 4000 ? 1 : 0, 1);
        before = made();
        new DotRuns();
        long one = made() - before;
        Check.due("bytes that a new object takes, " + one + ", are few", one < 10000 ? 1 : 0, 1);
        Check.end("RoomTest");
    }

    private static long made() {
        return ((com.sun.management.ThreadMXBean) ManagementFactory.getThreadMXBean())
            .getThreadAllocatedBytes(Thread.currentThread().getId());
    }

    private static void use(DotRuns x) {
        for (int i = 0; i < 20; i++) {
            x.sent(i % 10);
            x.sentLine(i, 0);
            x.received(i, i);
            x.harm(i, 1);
            x.worst();
            x.bestEvery();
            x.needsSteps();
            x.perDot();
            x.byAbove();
            x.write(i);
            x.show(i);
            x.count(10);
            x.line(i, 11);
            x.mode(i, 1, 1);
            x.run(i, 2);
            x.readBelow(i, 19 - i);
            x.paint(i, 0, 20, i % 2);
            x.undo();
            x.save(1);
            x.restore(0);
        }
    }
}
