/** Promises 13 to 31: time, the calls that change something, and what is told of an order. */
public final class OrdersTest {
    /** Drum works 10 and 12; planned starts 80 and 28; release times 70 and 18. */
    private static final String ONE_STATION = "stations 1 0;buffers 10 10;rope 50;product 0 2;product 0 3;"
            + "order 0 5 100;order 1 4 50";
    /** The way to the drum and behind it; drum work 6, start 44, release time 34. */
    private static final String THREE_STEPS = "stations 3 1;buffers 10 10;rope 50;product 2 2 1 3 0 1;"
            + "order 0 2 60";

    public static void main(String[] args) {
        now();
        advance();
        addOrder();
        cancel();
        setDue();
        expedite();
        setRule();
        setRope();
        stop();
        stateAndTimes();
        stepsOfAnOrder();
        fixedProperties();
        Check.end();
    }

    private static void now() {
        DrumRope x = new DrumRope();
        x.advance(3);
        Check.is(x.now(), 3);
        x.advance(500);
        Check.is(x.now(), 503);
    }

    private static void advance() {
        DrumRope x = Check.shop(ONE_STATION);
        Check.argument(() -> x.advance(0));
        Check.argument(() -> x.advance(501));
        Check.argument(() -> x.advance(-1));
        Check.is(x.now(), 0);
        Check.is(x.advance(29), 0);
        Check.is(x.advance(1), 1);
        Check.is(x.finishedAt(1), 30);
        Check.is(x.advance(50), 1);
        Check.is(x.finishedAt(0), 80);
        Check.is(x.advance(420), 0);
        for (int i = 0; i < 59; i++) {
            Check.is(x.advance(500), 0);
        }
        Check.is(x.now(), 30000);
        Check.is(x.advance(1), DrumRope.FULL);
        Check.argument(() -> x.advance(501));
        Check.is(x.now(), 30000);
        DrumRope y = new DrumRope();
        for (int i = 0; i < 59; i++) {
            y.advance(500);
        }
        y.advance(499);
        Check.is(y.advance(2), DrumRope.FULL);
        Check.is(y.now(), 29999);
        Check.is(y.advance(1), 0);
        DrumRope two = Check.shop("stations 2 0;buffers 500 5;product 0 1;product 0 1 1 1;order 0 3 9;order 1 1 1");
        Check.is(two.advance(10), 2);
    }

    private static void addOrder() {
        DrumRope x = Check.shop(ONE_STATION);
        Check.is(x.addOrder(1, 16, 200), 2);
        Check.is(x.addOrder(1, 17, 200), DrumRope.TOO_LARGE);
        Check.is(x.addOrder(0, 25, 0), 3);
        Check.is(x.addOrder(0, 26, 0), DrumRope.TOO_LARGE);
        Check.is(x.addOrder(0, 1, 30000), 4);
        Check.index(() -> x.addOrder(2, 0, -1));
        Check.index(() -> x.addOrder(-1, 1, 1));
        Check.argument(() -> x.addOrder(0, 0, 1));
        Check.argument(() -> x.addOrder(0, 51, 1));
        Check.argument(() -> x.addOrder(0, 1, -1));
        Check.argument(() -> x.addOrder(0, 50, 30001));
        Check.is(x.orderCount(), 5);
        Check.is(x.productOf(2), 1);
        Check.is(x.quantityOf(2), 16);
        Check.is(x.dueOf(2), 200);
        Check.is(x.stateOf(2), 0);
        x.cancel(2);
        for (int i = 5; i < 24; i++) {
            Check.is(x.addOrder(0, 1, 90), i);
        }
        Check.is(x.addOrder(0, 1, 90), DrumRope.FULL);
        Check.is(x.addOrder(0, 50, 90), DrumRope.FULL);
        Check.argument(() -> x.addOrder(0, 51, 1));
        Check.is(x.orderCount(), 24);
    }

    private static void cancel() {
        DrumRope x = Check.shop(ONE_STATION + ";order 0 1 500");
        Check.is(x.cancel(2), 2);
        Check.is(x.stateOf(2), 3);
        Check.is(x.cancel(2), DrumRope.WRONG_STATE);
        x.advance(19);
        Check.is(x.cancel(1), DrumRope.WRONG_STATE);
        x.advance(20);
        Check.is(x.stateOf(1), 2);
        Check.is(x.cancel(1), DrumRope.WRONG_STATE);
        Check.is(x.addOrder(0, 1, 900), 3);
        Check.is(x.cancel(0), 1);
        Check.is(x.cancel(3), 0);
        Check.index(() -> x.cancel(4));
        Check.index(() -> x.cancel(-1));
        Check.is(x.scheduleAt(0), -1);
        Check.is(x.advance(500), 0);
    }

    private static void setDue() {
        DrumRope x = Check.shop(ONE_STATION);
        Check.is(x.setDue(0, 40), 100);
        Check.is(x.dueOf(0), 40);
        Check.is(x.scheduleAt(0), 0);
        Check.is(x.setDue(0, 30000), 40);
        Check.is(x.setDue(0, 0), 30000);
        Check.is(x.setDue(0, 100), 0);
        Check.index(() -> x.setDue(2, -1));
        Check.index(() -> x.setDue(-1, 1));
        Check.argument(() -> x.setDue(0, -1));
        Check.argument(() -> x.setDue(0, 30001));
        x.advance(19);
        Check.is(x.setDue(1, 60), 50);
        x.advance(11);
        Check.is(x.stateOf(1), 2);
        Check.is(x.setDue(1, 70), DrumRope.WRONG_STATE);
        Check.is(x.dueOf(1), 60);
        Check.argument(() -> x.setDue(1, -1));
        x.cancel(0);
        Check.is(x.setDue(0, 70), DrumRope.WRONG_STATE);
        Check.is(x.dueOf(0), 100);
    }

    private static void expedite() {
        DrumRope x = Check.shop(ONE_STATION);
        Check.is(x.expedite(1, true), false);
        Check.is(x.expedite(1, true), true);
        Check.is(x.expedite(1, false), true);
        Check.is(x.expedite(1, false), false);
        Check.is(x.expedite(0, false), false);
        x.cancel(0);
        Check.is(x.expedite(0, true), false);
        Check.is(x.expedite(0, true), true);
        Check.index(() -> x.expedite(2, true));
        Check.index(() -> x.expedite(-1, false));
    }

    private static void setRule() {
        DrumRope x = Check.shop("stations 1 0;rule 2");
        Check.is(x.setRule(3), 2);
        Check.is(x.setRule(0), 3);
        Check.argument(() -> x.setRule(4));
        Check.argument(() -> x.setRule(-1));
        Check.is(x.setRule(1), 0);
        Check.is(x.setRule(1), 1);
    }

    private static void setRope() {
        DrumRope x = Check.shop(ONE_STATION);
        Check.is(x.setRope(11), DrumRope.TOO_LARGE);
        Check.is(x.rope(), 50);
        Check.is(x.setRope(12), 50);
        Check.is(x.rope(), 12);
        Check.is(x.setRope(5000), 12);
        Check.argument(() -> x.setRope(0));
        Check.argument(() -> x.setRope(5001));
        Check.is(x.rope(), 5000);
        x.advance(19);
        Check.is(x.setRope(10), 5000);
        Check.is(x.stateOf(1), 1);
        Check.is(x.ropeLoad(), 12);
        Check.is(x.setRope(9), DrumRope.TOO_LARGE);
        x.cancel(0);
        Check.is(x.setRope(1), 10);
        Check.is(x.stateOf(1), 1);
    }

    private static void stop() {
        DrumRope x = Check.shop("stations 2 0;buffers 500 5;product 0 1;order 0 9 0");
        Check.is(x.stop(0, 3), 3);
        Check.is(x.downUntil(0), 3);
        x.advance(1);
        Check.is(x.stop(0, 5), 6);
        Check.is(x.stop(0, 2), 3);
        Check.is(x.stop(1, 500), 501);
        x.advance(2);
        Check.is(x.downUntil(0), -1);
        Check.is(x.isWorkedOn(0), false);
        x.advance(1);
        Check.is(x.remaining(0), 8);
        Check.is(x.stop(0, 4), 8);
        x.advance(2);
        Check.is(x.remaining(0), 8);
        Check.is(x.workingOn(0), 0);
        Check.is(x.stop(0, 0), 6);
        Check.is(x.downUntil(0), -1);
        x.advance(1);
        Check.is(x.remaining(0), 7);
        Check.index(() -> x.stop(2, -1));
        Check.index(() -> x.stop(-1, 1));
        Check.argument(() -> x.stop(0, -1));
        Check.argument(() -> x.stop(0, 501));
        Check.is(x.downUntil(0), -1);
    }

    private static void stateAndTimes() {
        DrumRope x = Check.shop(ONE_STATION);
        x.advance(18);
        Check.is(x.stateOf(1), 0);
        Check.is(x.releasedAt(1), -1);
        Check.is(x.stepOf(1), -1);
        x.advance(1);
        Check.is(x.stateOf(1), 1);
        Check.is(x.releasedAt(1), 18);
        Check.is(x.finishedAt(1), -1);
        x.advance(11);
        Check.is(x.stateOf(1), 2);
        Check.is(x.releasedAt(1), 18);
        Check.is(x.finishedAt(1), 30);
        x.cancel(0);
        Check.is(x.stateOf(0), 3);
        Check.is(x.releasedAt(0), -1);
        Check.is(x.finishedAt(0), -1);
        for (int bad : new int[] {-1, 2, Integer.MAX_VALUE, Integer.MIN_VALUE}) {
            Check.index(() -> x.stateOf(bad));
            Check.index(() -> x.releasedAt(bad));
            Check.index(() -> x.finishedAt(bad));
        }
    }

    private static void stepsOfAnOrder() {
        DrumRope x = Check.shop(THREE_STEPS);
        x.advance(34);
        Check.is(x.stepOf(0), -1);
        Check.is(x.isWorkedOn(0), false);
        Check.is(x.remaining(0), 0);
        x.stop(2, 2);
        x.advance(1);
        Check.is(x.stepOf(0), 0);
        Check.is(x.isWorkedOn(0), false);
        Check.is(x.remaining(0), 0);
        x.advance(2);
        Check.is(x.isWorkedOn(0), true);
        Check.is(x.remaining(0), 3);
        x.advance(3);
        Check.is(x.stepOf(0), 1);
        Check.is(x.isWorkedOn(0), false);
        Check.is(x.remaining(0), 0);
        x.advance(1);
        Check.is(x.isWorkedOn(0), true);
        Check.is(x.remaining(0), 5);
        x.advance(4);
        Check.is(x.isWorkedOn(0), true);
        Check.is(x.remaining(0), 1);
        Check.is(x.loadOf(1), 1);
        x.advance(1);
        Check.is(x.stepOf(0), 2);
        Check.is(x.advance(2), 1);
        Check.is(x.stepOf(0), 3);
        Check.is(x.isWorkedOn(0), false);
        Check.is(x.remaining(0), 0);
        Check.is(x.finishedAt(0), 48);
        x.addOrder(0, 1, 900);
        x.cancel(1);
        Check.is(x.stepOf(1), -1);
        Check.is(x.isWorkedOn(1), false);
        for (int bad : new int[] {-1, 2}) {
            Check.index(() -> x.stepOf(bad));
            Check.index(() -> x.isWorkedOn(bad));
            Check.index(() -> x.remaining(bad));
        }
    }

    private static void fixedProperties() {
        DrumRope x = Check.shop(ONE_STATION);
        Check.is(x.productOf(0), 0);
        Check.is(x.productOf(1), 1);
        Check.is(x.quantityOf(0), 5);
        Check.is(x.quantityOf(1), 4);
        Check.is(x.dueOf(0), 100);
        Check.is(x.dueOf(1), 50);
        for (int bad : new int[] {-1, 2}) {
            Check.index(() -> x.productOf(bad));
            Check.index(() -> x.quantityOf(bad));
            Check.index(() -> x.dueOf(bad));
        }
    }
}
