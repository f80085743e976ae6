import java.lang.management.ManagementFactory;

/** All calls of one run live in one room: neither a full box nor 360 calls behind it may make much. */
public final class RoomTest {
    /** A room of 7.3 million fields and elements, of which a run is to take a small part, at 8 bytes each. */
    private static final long MOST_BYTES = 7_300_000L * 8 / 20;
    private static final Check check = new Check();

    public static void main(String[] args) {
        long before = made();
        PinBarrel box = fullBox();
        check.due("a full box is small", made() - before < MOST_BYTES, true);
        before = made();
        for (int i = 0; i < 60; i++) {
            box.digest();
            box.bestKey(i % 4, i % 3);
            box.play(1 + i * 2);
            box.wind(500);
            box.pin(i % 4, i % 3, 0);
            box.mend();
        }
        check.due("the calls make next to nothing", made() - before < MOST_BYTES / 100, true);
        PinBarrel rows = fullBox();
        before = made();
        for (int i = 0; i < 360; i++) {
            rows.row(i % 64);
        }
        check.due("rows are small", made() - before < MOST_BYTES, true);
        check.end();
    }

    private static PinBarrel fullBox() {
        PinBarrel box = new PinBarrel();
        for (int i = 0; i < 24; i++) {
            box.tooth(20 + i % 4);
        }
        for (int tune = 0; tune < 4; tune++) {
            box.tune();
            for (int i = 0; i < 30; i++) {
                box.note(tune, (i * 7 + tune) % 64, 20 + i % 5);
            }
            box.pin(tune, 0, 0);
        }
        return box;
    }

    private static long made() {
        var threads = (com.sun.management.ThreadMXBean) ManagementFactory.getThreadMXBean();
        return threads.getThreadAllocatedBytes(Thread.currentThread().getId());
    }
}
