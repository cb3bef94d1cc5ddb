import java.lang.management.ManagementFactory;

/** All calls of one run live in one room: an object is small, and its calls make nothing more. */
public final class RoomTest {
    private static final long BYTES_OF_AN_OBJECT = 40_000, BYTES_OF_ITS_CALLS = 4_000;

    public static void main(String[] args) {
        Check check = new Check("room");
        com.sun.management.ThreadMXBean threads =
            (com.sun.management.ThreadMXBean) ManagementFactory.getThreadMXBean();
        // The first ones load classes, which is not to be counted.
        for (int i = 0; i < 3; i++) dearest(new TugLines());
        long start = threads.getCurrentThreadAllocatedBytes();
        TugLines x = new TugLines();
        long made = threads.getCurrentThreadAllocatedBytes();
        dearest(x);
        long end = threads.getCurrentThreadAllocatedBytes();
        check.that("an object takes " + (made - start) + " bytes", made - start < BYTES_OF_AN_OBJECT);
        check.that("its calls take " + (end - made) + " bytes", end - made < BYTES_OF_ITS_CALLS);
        check.end();
    }

    private static void dearest(TugLines x) {
        String text = "t60,99;p9,20;l9,20;s9,20;a9,20;b9,20;p9,20;q50,20;q40,20;q30,20;q20,20;";
        for (int i = 0; i < text.length(); i++) x.feed(text.charAt(i));
        x.estuary();
        for (int i = 0; i < 30; i++) {
            x.row(i % 8, 2, 40);
            x.set(i % 8, 3, i);
            x.copy(i % 8, 0, i % 8, 3, 30);
            x.hours(1);
            x.crew(30, 1);
            x.cleared(30, 1);
            x.least(i % 6, 30);
            x.fits(i % 6, i % 8, 0, 12, 3);
            x.chance(8, 5, 0);
            x.drawn(60, 7 + i, 0);
            x.image(0);
            x.ask(i % 6, 0);
            x.undo();
        }
        x.restore(0);
    }
}
