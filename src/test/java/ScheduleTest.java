/** Promises 32 to 36 and 51: the schedule of the drum, the rope, and the quoted due times. */
public final class ScheduleTest {
    /** Drum work 10 each; planned 22 to 32 and 42 to 52. */
    private static final String TWO = "stations 2 1;buffers 10 8;rope 30;product 0 1 1 2;order 0 5 60;order 0 5 40";

    public static void main(String[] args) {
        backwardAndForward();
        equalDueTimes();
        begunAndCancelled();
        behindTheWork();
        atRisk();
        ropeLoad();
        ropeBars();
        ropeEdge();
        releaseTime();
        quote();
        quoteBehindTheWork();
        Check.end();
    }

    private static void backwardAndForward() {
        DrumRope x = Check.shop(TWO);
        Check.is(x.plannedStart(1), 22);
        Check.is(x.plannedStart(0), 42);
        // pushed forward from behind by the next one's start: 42 - 10, and 32 - 14
        Check.is(x.addOrder(0, 7, 55), 2);
        Check.is(x.plannedStart(0), 42);
        Check.is(x.plannedStart(2), 28);
        Check.is(x.plannedStart(1), 18);
        // and back again where the present time forbids it
        Check.is(x.addOrder(0, 10, 41), 3);
        Check.is(x.plannedStart(3), 10);
        Check.is(x.plannedStart(1), 0);
        Check.is(x.plannedStart(2), 30);
        Check.is(x.plannedStart(0), 44);
        Check.is(x.scheduleAt(0), 1);
        Check.is(x.scheduleAt(1), 3);
        Check.is(x.scheduleAt(2), 2);
        Check.is(x.scheduleAt(3), 0);
        Check.is(x.scheduleAt(4), -1);
        Check.is(x.scheduleAt(-1), -1);
        Check.is(x.scheduleAt(Integer.MAX_VALUE), -1);
        Check.is(x.scheduleAt(Integer.MIN_VALUE), -1);
        Check.index(() -> x.plannedStart(4));
        Check.index(() -> x.plannedStart(-1));
    }

    private static void equalDueTimes() {
        DrumRope x = Check.shop("stations 1 0;product 0 2;order 0 1 90;order 0 2 50;order 0 3 50;order 0 4 50");
        Check.is(x.scheduleAt(0), 1);
        Check.is(x.scheduleAt(1), 2);
        Check.is(x.scheduleAt(2), 3);
        Check.is(x.scheduleAt(3), 0);
        Check.is(x.plannedStart(3), 22);
        Check.is(x.plannedStart(2), 16);
        Check.is(x.plannedStart(1), 12);
        Check.is(x.plannedStart(0), 68);
    }

    private static void begunAndCancelled() {
        DrumRope x = Check.shop(TWO);
        x.advance(17);
        Check.is(x.scheduleAt(0), 1);
        Check.is(x.plannedStart(1), 22);
        x.advance(1);
        Check.is(x.scheduleAt(0), 0);
        Check.is(x.plannedStart(1), 17);
        x.advance(9);
        Check.is(x.stateOf(1), 2);
        Check.is(x.plannedStart(1), 17);
        x.cancel(0);
        Check.is(x.plannedStart(0), DrumRope.NO_TIME);
        Check.is(x.scheduleAt(0), -1);
    }

    private static void behindTheWork() {
        DrumRope x = Check.shop("stations 1 0;buffers 5 8;rope 500;setup 0 7;product 0 10;order 0 10 0;order 0 1 0");
        x.advance(1);
        Check.is(x.plannedStart(0), 0);
        Check.is(x.plannedStart(1), 107);
        x.stop(0, 50);
        x.advance(2);
        Check.is(x.plannedStart(1), 109);
        Check.is(x.releaseTime(1), 104);
    }

    private static void atRisk() {
        DrumRope x = Check.shop(TWO);
        Check.is(x.isAtRisk(0), false);
        Check.is(x.isAtRisk(1), false);
        x.setDue(1, 18);
        Check.is(x.plannedStart(1), 0);
        Check.is(x.isAtRisk(1), false);
        x.setDue(1, 17);
        Check.is(x.isAtRisk(1), true);
        Check.is(x.isAtRisk(0), false);
        x.setDue(0, 17);
        Check.is(x.scheduleAt(0), 0);
        Check.is(x.isAtRisk(0), true);
        x.cancel(0);
        Check.is(x.isAtRisk(0), false);
        x.advance(6);
        Check.is(x.plannedStart(1), 5);
        Check.is(x.isAtRisk(1), false);
        Check.index(() -> x.isAtRisk(2));
        Check.index(() -> x.isAtRisk(-1));
    }

    private static void ropeLoad() {
        DrumRope x = Check.shop("stations 3 1;buffers 500 5;rope 30;product 0 1 1 2 2 5;order 0 5 100;order 0 4 90");
        Check.is(x.ropeLoad(), 0);
        x.advance(1);
        Check.is(x.ropeLoad(), 18);
        x.advance(8);
        Check.is(x.workingOn(1), 0);
        Check.is(x.ropeLoad(), 18);
        x.advance(6);
        Check.is(x.stepOf(0), 2);
        Check.is(x.ropeLoad(), 8);
        x.advance(8);
        Check.is(x.ropeLoad(), 0);
        Check.is(x.inZone(0) + x.inZone(1) + x.inZone(2) + x.inZone(3), 2);
    }

    /** The third one would fit, but the second one bars it. */
    private static void ropeBars() {
        DrumRope x = Check.shop("stations 1 0;buffers 500 5;rope 10;product 0 1;order 0 6 50;order 0 6 60;order 0 3 70");
        x.advance(6);
        Check.is(x.stateOf(0), 2);
        Check.is(x.stateOf(1), 0);
        Check.is(x.stateOf(2), 0);
        x.advance(1);
        Check.is(x.stateOf(1), 1);
        Check.is(x.releasedAt(1), 6);
        Check.is(x.releasedAt(2), 6);
        Check.is(x.ropeLoad(), 9);
    }

    private static void ropeEdge() {
        DrumRope x = Check.shop("stations 1 0;buffers 500 5;rope 12;product 0 1;order 0 6 50;order 0 6 60;order 0 1 70");
        x.advance(1);
        Check.is(x.stateOf(0), 1);
        Check.is(x.stateOf(1), 1);
        Check.is(x.stateOf(2), 0);
        Check.is(x.ropeLoad(), 12);
        // the first does not bar the others while its release time has not come
        DrumRope y = Check.shop("stations 2 0;buffers 10 10;rope 10;product 0 1;order 0 5 40;order 0 5 45");
        y.advance(16);
        Check.is(y.releasedAt(0), 15);
        Check.is(y.stateOf(1), 0);
        y.advance(5);
        Check.is(y.releasedAt(1), 20);
    }

    private static void releaseTime() {
        DrumRope x = Check.shop(TWO);
        Check.is(x.releaseTime(1), 12);
        Check.is(x.releaseTime(0), 32);
        x.setDue(0, 15);
        Check.is(x.releaseTime(0), -10);
        x.setDue(0, 60);
        x.stop(0, 20);
        x.advance(15);
        Check.is(x.releasedAt(1), 12);
        x.setDue(1, 200);
        Check.is(x.releaseTime(1), 12);
        Check.is(x.plannedStart(1), 182);
        x.advance(100);
        Check.is(x.stateOf(1), 2);
        Check.is(x.releaseTime(1), 12);
        Check.is(x.addOrder(0, 1, 500), 2);
        Check.is(x.releaseTime(2), 480);
        x.cancel(2);
        Check.is(x.releaseTime(2), DrumRope.NO_TIME);
        Check.index(() -> x.releaseTime(3));
        Check.index(() -> x.releaseTime(-1));
    }

    private static void quote() {
        DrumRope x = Check.shop(TWO);
        Check.is(x.quote(0, 5), 28);
        Check.is(x.quote(0, 6), 30);
        Check.is(x.quote(0, 7), 74);
        Check.is(x.quote(0, 15), 90);
        Check.is(x.quote(0, 16), DrumRope.TOO_LARGE);
        Check.index(() -> x.quote(1, 0));
        Check.index(() -> x.quote(-1, 1));
        Check.argument(() -> x.quote(0, 0));
        Check.argument(() -> x.quote(0, 51));
        Check.is(x.orderCount(), 2);
        x.setDue(0, 50);
        // 22 to 32 and 32 to 42: no room between them
        Check.is(x.quote(0, 1), 20);
        x.advance(11);
        Check.is(x.quote(0, 1), 52);
        x.setDue(0, 52);
        Check.is(x.quote(0, 1), 42);
        Check.is(x.quote(0, 2), 56);
        DrumRope full = Check.shop("stations 1 0;product 0 1" + ";order 0 1 9".repeat(24));
        Check.is(full.quote(0, 1), 45);
    }

    private static void quoteBehindTheWork() {
        DrumRope x = Check.shop("stations 1 0;buffers 5 8;rope 500;product 0 10;order 0 10 0");
        x.advance(1);
        Check.is(x.quote(0, 1), 118);
        x.advance(96);
        Check.is(x.quote(0, 1), 120);
        x.advance(499);
        Check.is(x.quote(0, 1), 619);
    }
}
