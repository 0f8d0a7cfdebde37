import java.lang.management.ManagementFactory;

/** All calls of a run live in one room: an object is small, and its calls, the dearest ones too, make nothing. */
public final class RoomTests {
    private static final com.sun.management.ThreadMXBean THREADS =
        (com.sun.management.ThreadMXBean) ManagementFactory.getThreadMXBean();

    private static long sum = 0;

    private RoomTests() {
    }

    public static void main(String[] args) {
        // the first rounds make the virtual machine's own objects
        for (int n = 0; n < 3; n++) {
            made();
        }
        long before = THREADS.getCurrentThreadAllocatedBytes();
        AcrossOnFoot x = new AcrossOnFoot();
        long object = THREADS.getCurrentThreadAllocatedBytes() - before;
        Due.holds("an object has " + object + " bytes", object < 40000);
        long calls = made();
        Due.holds("a run of dear calls makes " + calls + " bytes", calls < 2000);
        Due.holds("they answered", sum != 0 && x.count(0) == 0);
        Due.end();
    }

    /** How many bytes a run of the dearest calls makes, once all is fed. */
    private static long made() {
        AcrossOnFoot x = new AcrossOnFoot();
        for (int n = 0; n < 6; n++) {
            Due.place(x, "1,2,9" + ";1,2,9".repeat(11) + "/9");
        }
        for (int n = 0; n < 4; n++) {
            Due.law(x, "1" + "*1".repeat(59));
        }
        for (int n = 0; n < 8; n++) {
            x.person(12022, 940);
        }
        long before = THREADS.getCurrentThreadAllocatedBytes();
        x.force(0);
        for (int n = 0; n < 10; n++) {
            sum += x.notch(n + 20, n) + x.body(n % 8) + x.act(n, 3, n) + x.mend(0, 0, 0, n) + x.row(n % 6, n % 5, 60);
            sum += x.best(12345, 47, 0) + x.wall(12345, 0) + x.order(0, 123453, 0) + x.gusts(0, 123453, 1, 5001, 0);
            sum += x.fit() + x.await(0, 123453) + x.line(0, 123453) + x.undo() + x.redo() + x.mustNot(n);
            sum += x.midst(n, 123453, 60, 1) + x.roped(n, 123453, 1) + x.element(n % 6, n) + x.shift(0, 0, 5, 1, 9);
            sum += x.feed(4, n) + x.place() + x.feed(4, n) + x.law() + x.notches(0, 0, 20) + x.stick(n, 11);
        }
        return THREADS.getCurrentThreadAllocatedBytes() - before;
    }
}
