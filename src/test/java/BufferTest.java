/** Promises 37 to 41 and 57: how far orders have penetrated their buffers, and where they turned red. */
public final class BufferTest {
    /** Drum work 5, planned start 65, release time 35. */
    private static final String LONG_WAY = "stations 2 1;buffers 30 30;rope 500;product 0 1 1 1;order 0 5 100";

    public static void main(String[] args) {
        drumBuffer();
        shippingBuffer();
        neverNegative();
        shortestBuffers();
        otherStates();
        inZone();
        redAtDrum();
        worstStation();
        turnsRedAtItsLastTick();
        Check.end();
    }

    private static void check(DrumRope x, int now, int penetration, int zone) {
        if (now > x.now()) {
            x.advance(now - x.now());
        }
        Check.is(x.penetration(0), penetration, "penetration at " + now);
        Check.is(x.zone(0), zone, "zone at " + now);
    }

    private static void drumBuffer() {
        DrumRope x = Check.shop(LONG_WAY);
        x.stop(0, 500);
        check(x, 35, 0, -1);
        check(x, 36, 33, 0);
        check(x, 45, 333, 0);
        check(x, 46, 366, 1);
        check(x, 55, 666, 1);
        Check.is(x.firstRedAt(0), -1);
        Check.is(x.redAt(0), 0);
        Check.is(x.worstStation(), -1);
        check(x, 56, 700, 2);
        Check.is(x.firstRedAt(0), 0);
        Check.is(x.redAt(0), 1);
        Check.is(x.worstStation(), 0);
        check(x, 64, 966, 2);
        check(x, 65, 1000, 3);
        check(x, 95, 2000, 3);
        Check.is(x.redAt(0), 1);
        // another due time moves the plan, not the time at which it was released
        x.setDue(0, 400);
        Check.is(x.penetration(0), 2000);
    }

    private static void shippingBuffer() {
        DrumRope x = Check.shop(LONG_WAY);
        x.stop(0, 30);
        x.stop(1, 65);
        check(x, 65, 1000, 3);
        check(x, 66, 0, 0);
        Check.is(x.isWorkedOn(0), true);
        x.stop(1, 500);
        check(x, 80, 333, 0);
        check(x, 81, 366, 1);
        check(x, 90, 666, 1);
        check(x, 91, 700, 2);
        check(x, 100, 1000, 3);
        x.setDue(0, 110);
        check(x, 101, 700, 2);
        x.setDue(0, 120);
        check(x, 101, 366, 1);
        // seen in red once only, when it waited at the drum
        Check.is(x.redAt(0), 0);
        Check.is(x.redAt(1), 1);
    }

    private static void neverNegative() {
        DrumRope x = Check.shop("stations 1 0;buffers 500 3;product 0 1;order 0 50 490");
        x.advance(9);
        Check.is(x.stateOf(0), 1);
        Check.is(x.penetration(0), 0);
        Check.is(x.zone(0), 0);
    }

    private static void shortestBuffers() {
        DrumRope x = Check.shop("stations 2 0;buffers 1 1;product 0 1 1 9;order 0 5 20");
        x.stop(0, 15);
        x.advance(14);
        Check.is(x.releasedAt(0), 13);
        Check.is(x.penetration(0), 1000);
        Check.is(x.zone(0), 3);
        x.advance(1);
        Check.is(x.penetration(0), 2000);
        x.advance(4);
        Check.is(x.penetration(0), 0);
        Check.is(x.zone(0), 0);
        x.advance(2);
        Check.is(x.penetration(0), 2000);
        Check.is(x.zone(0), 3);
    }

    private static void otherStates() {
        DrumRope x = Check.shop(LONG_WAY + ";order 0 1 900");
        Check.is(x.penetration(0), 0);
        Check.is(x.zone(0), -1);
        x.cancel(1);
        Check.is(x.penetration(1), 0);
        Check.is(x.zone(1), -1);
        x.advance(500);
        Check.is(x.stateOf(0), 2);
        Check.is(x.penetration(0), 0);
        Check.is(x.zone(0), -1);
        for (int bad : new int[] {-1, 2}) {
            Check.index(() -> x.penetration(bad));
            Check.index(() -> x.zone(bad));
            Check.index(() -> x.firstRedAt(bad));
        }
    }

    private static void inZone() {
        DrumRope x = Check.shop(LONG_WAY + ";order 0 5 95;order 0 5 90;order 0 5 85;order 0 1 900");
        x.stop(0, 500);
        // planned starts 50, 55, 60, 65, so release times 20, 25, 30, 35
        x.advance(42);
        // 22, 17, 12 and 7 of 30
        Check.is(x.zone(3), 2);
        Check.is(x.zone(2), 1);
        Check.is(x.zone(1), 1);
        Check.is(x.zone(0), 0);
        Check.is(x.inZone(0), 1);
        Check.is(x.inZone(1), 2);
        Check.is(x.inZone(2), 1);
        Check.is(x.inZone(3), 0);
        x.advance(8);
        Check.is(x.inZone(3), 1);
        Check.argument(() -> x.inZone(4));
        Check.argument(() -> x.inZone(-1));
    }

    private static void redAtDrum() {
        DrumRope x = Check.shop("stations 3 1;buffers 30 5;rope 500;product 0 1 1 10 2 1;order 0 1 0");
        // released at 0 with the release time -30: black at once, but at the drum when the tick ends
        x.advance(1);
        Check.is(x.firstRedAt(0), 1);
        Check.is(x.redAt(0), 0);
        Check.is(x.redAt(1), 1);
        Check.is(x.redAt(2), 0);
        Check.is(x.worstStation(), 1);
        x.advance(499);
        Check.is(x.firstRedAt(0), 1);
        Check.is(x.redAt(1), 1);
        Check.is(x.redAt(2), 0);
        Check.index(() -> x.redAt(3));
        Check.index(() -> x.redAt(-1));
    }

    private static void worstStation() {
        DrumRope x = Check.shop("stations 2 1;buffers 30 30;rope 500;product 1 1 0 9;order 0 5 100;order 0 1 100");
        x.addOrder(0, 1, 0);
        x.advance(1);
        // the hurried one is finished at the drum in its first tick and turns red behind it
        Check.is(x.firstRedAt(2), 0);
        Check.is(x.worstStation(), 0);
        x.stop(1, 500);
        x.advance(100);
        Check.is(x.redAt(1), 2);
        Check.is(x.redAt(0), 1);
        Check.is(x.worstStation(), 1);
        DrumRope tie = Check.shop("stations 3 2;buffers 30 30;product 0 9 2 1;product 1 9 2 1;order 0 1 0;order 1 1 0");
        tie.advance(20);
        Check.is(tie.redAt(0), 1);
        Check.is(tie.redAt(1), 1);
        Check.is(tie.worstStation(), 0);
    }

    /** Red is looked at after the steps have been finished: the tick's end, at the next station. */
    private static void turnsRedAtItsLastTick() {
        // release time 35, begun at 35 at station 0 with 21 ticks: at 56 it is at the drum, and red
        DrumRope x = Check.shop("stations 2 1;buffers 30 30;rope 500;product 0 7 1 1;order 0 3 98");
        x.advance(56);
        Check.is(x.releaseTime(0), 35);
        Check.is(x.stepOf(0), 1);
        Check.is(x.zone(0), 2);
        Check.is(x.firstRedAt(0), 1);
        // with one tick more of work there it is red at station 0 before
        DrumRope y = Check.shop("stations 2 1;buffers 30 30;rope 500;setup 0 1;product 0 7 1 1;order 0 3 98");
        y.advance(100);
        Check.is(y.stateOf(0), 2);
        Check.is(y.firstRedAt(0), 0);
        // and finished in the tick in which it would turn red, it is never seen so
        DrumRope z = Check.shop("stations 1 0;buffers 500 30;product 0 1;order 0 50 59");
        z.advance(49);
        Check.is(z.penetration(0), 666);
        z.advance(1);
        Check.is(z.stateOf(0), 2);
        Check.is(z.firstRedAt(0), -1);
    }
}
