import java.lang.management.ManagementFactory;

/** All calls of a run live in one room: rows are made with the object, no call makes more. */
public final class RoomTest {
    private static final String FULL_TEXT = "t20;b0 1 0 1;b4 9 5 0;b4 9 5 1;b0 1 0 0;b1 2 1 1;b2 3 2 0;b3 4 3 1;b0 5 4 0;"
        + "b1 6 5 1;b2 7 0 0;b3 8 1 1;b4 1 2 0;r3 2 1 0;r0 1 0 1;r3 0 0 2;u0 1 0 1;u4 9 5 0;n0;n5;n9;n20;n9;";
    private static final com.sun.management.ThreadMXBean THREADS =
        (com.sun.management.ThreadMXBean) ManagementFactory.getThreadMXBean();
    private static int sum;

    private static long made() {
        return THREADS.getThreadAllocatedBytes(Thread.currentThread().getId());
    }

    private static void useAll(ButtonTin x) {
        for (int i = 0; i < FULL_TEXT.length(); i++) {
            sum += x.feed(FULL_TEXT.charAt(i));
        }
        sum += x.tin() + x.fault();
        for (int i = 0; i < 16; i++) {
            sum += x.told(i) + x.button(i, 7) + x.rule(i, 4) + x.cause(i, 0) + x.need(i, 1) + x.heap(i);
            sum += x.put(i, 3) + x.fit(3, -1) + x.tells(3) + x.teach(7 * i) + x.match(-1) + x.load(20 * i);
        }
        for (int i = 0; i < 8; i++) {
            sum += x.takeBack(i) + x.slips(i, 0) + x.undid(i, 0) + x.change(i) + x.alike(i) + x.child(7 * i);
            sum += x.write(i, 0) + x.judge() + x.seed(i) + x.drift(60) + x.sort() + x.sew(i, 0) + x.pull(i);
        }
        sum += x.unpick(0) + x.up(1) + x.undo() + x.keep(0) + x.goBack(0) + x.tear();
    }

    public static void main(String[] args) {
        made();
        useAll(new ButtonTin());
        long start = made();
        ButtonTin x = new ButtonTin();
        long before = made();
        useAll(x);
        long after = made();
        Check.holds("a new object is small: " + (before - start) + " bytes", before - start < 16384);
        Check.holds("calls make next to nothing: " + (after - before) + " bytes", after - before < 1024);
        Check.holds("something was answered", sum != 1);
        Check.finish();
    }
}
