/** Promises 49, 50, 58 and 59: lateness and flow. */
public final class ResultTest {
    /** In the order of their numbers: finished at 6, 8, 14 and 20. */
    private static final String FOUR = "stations 1 0;buffers 500 5;rope 500;setup 0 4;product 0 1;product 0 1;"
            + "order 0 2 6;order 0 2 7;order 1 2 10;order 0 2 40";

    public static void main(String[] args) {
        late();
        lateFirst();
        flow();
        flowOfOthers();
        Check.end();
    }

    private static void late() {
        DrumRope x = Check.shop(FOUR);
        Check.is(x.lateCount(), 0);
        x.advance(6);
        Check.is(x.lateCount(), 0);
        Check.is(x.tardiness(), 0);
        x.advance(1);
        Check.is(x.lateCount(), 0);
        x.advance(1);
        Check.is(x.lateCount(), 1);
        Check.is(x.tardiness(), 1);
        x.advance(5);
        Check.is(x.lateCount(), 1);
        x.advance(1);
        Check.is(x.lateCount(), 2);
        Check.is(x.tardiness(), 5);
        x.advance(50);
        Check.is(x.stateOf(3), 2);
        Check.is(x.lateCount(), 2);
        Check.is(x.tardiness(), 5);
    }

    private static void lateFirst() {
        DrumRope x = Check.shop("stations 1 0;buffers 500 5;product 0 3;order 0 2 1");
        x.advance(6);
        Check.is(x.lateCount(), 1);
        Check.is(x.tardiness(), 5);
        x.advance(9);
        Check.is(x.tardiness(), 5);
    }

    private static void flow() {
        DrumRope x = Check.shop(FOUR);
        Check.is(x.meanFlow(), -1);
        Check.is(x.flowTime(0), -1);
        x.advance(1);
        Check.is(x.flowTime(0), 1);
        Check.is(x.flowTime(3), 1);
        Check.is(x.meanFlow(), -1);
        x.advance(5);
        Check.is(x.meanFlow(), 6);
        x.advance(2);
        Check.is(x.meanFlow(), 7);
        Check.is(x.flowTime(0), 6);
        Check.is(x.flowTime(2), 8);
        x.advance(6);
        Check.is(x.meanFlow(), 9);
        x.advance(6);
        Check.is(x.meanFlow(), 12);
        x.advance(60);
        Check.is(x.meanFlow(), 12);
        Check.is(x.flowTime(3), 20);
        Check.index(() -> x.flowTime(4));
        Check.index(() -> x.flowTime(-1));
    }

    private static void flowOfOthers() {
        DrumRope x = Check.shop("stations 1 0;buffers 10 10;product 0 2;order 0 5 100;order 0 4 900");
        x.advance(75);
        Check.is(x.releasedAt(0), 70);
        Check.is(x.flowTime(0), 5);
        Check.is(x.flowTime(1), -1);
        x.cancel(1);
        Check.is(x.flowTime(1), -1);
        x.advance(75);
        Check.is(x.flowTime(0), 10);
        Check.is(x.meanFlow(), 10);
    }
}
