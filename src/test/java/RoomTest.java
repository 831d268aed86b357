import java.lang.management.ManagementFactory;

/** The rows are made with the object: no call of it, the predictions least of all, makes new ones. */
public final class RoomTest {
    public static void main(String[] args) {
        DrumRope x = Check.shop("stations 6 3;buffers 400 300;rope 400;rule 1;auto 1;setup 3 9;"
                + "product 0 2 1 3 2 1 3 2 4 1 5 1;product 3 5 0 1" + ";order 0 9 900;order 1 9 500".repeat(12));
        com.sun.management.ThreadMXBean threads =
                (com.sun.management.ThreadMXBean) ManagementFactory.getThreadMXBean();
        calls(x);
        long before = threads.getCurrentThreadAllocatedBytes();
        for (int i = 0; i < 20; i++) {
            calls(x);
        }
        long bytes = threads.getCurrentThreadAllocatedBytes() - before;
        Check.is(bytes < 20000, true, "the calls allocate " + bytes + " bytes; that this is little");
        Check.end();
    }

    private static void calls(DrumRope x) {
        x.bestExpedite();
        x.bestRule();
        x.neededRope();
        x.finishOf(3);
        x.finishIfAdded(0, 1, 50);
        x.quote(1, 3);
        x.scheduleAt(2);
        x.plannedStart(2);
        x.nextChoice(0);
        x.inZone(1);
        x.saveSnapshot(0);
        x.advance(3);
        x.restoreSnapshot(0);
        x.advance(1);
        x.appendByte('s');
        x.load();
    }
}
