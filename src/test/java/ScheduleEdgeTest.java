/**
 * Sections 2 and 3, and promises 32 to 36 and 51, at their boundaries; above each test stands the
 * sentence that it is for.
 */
public final class ScheduleEdgeTest {
    /** Drum work 10 each, SHIPPING 8; planned 22 to 32 and 42 to 52. */
    private static final String TWO = "stations 2 1;buffers 10 8;rope 30;product 0 1 1 2;order 0 5 60;order 0 5 40";
    /** The way to the drum, the drum, and the way behind it; order 4 is far ahead. */
    private static final String ALL_STATES = "stations 3 1;buffers 500 5;rope 500;product 0 1 1 2 2 9;"
            + "order 0 1 10;order 0 1 20;order 0 1 30;order 0 1 40;order 0 1 9000";

    public static void main(String[] args) {
        whatItContains();
        sortedByDue();
        smallerNumberFirst();
        endOfTheLast();
        startOfTheNext();
        earliestPossibleTime();
        endOfTheOneBefore();
        remainingTicks();
        idleDrum();
        plannedStart();
        scheduleAt();
        atRisk();
        notInTheSchedule();
        releaseTimeHasCome();
        ropeIsJustLongEnough();
        barredByTheFirst();
        releasedWork();
        ropeMadeShorter();
        keptReleaseTime();
        releaseTime();
        quoteFromThePresentOn();
        quoteBehindTheDrumsWork();
        quoteInAGap();
        quoteTooLarge();
        quoteOfManyOrders();
        Check.end();
    }

    private static void checkSchedule(DrumRope x, int... orders) {
        for (int i = 0; i < orders.length; i++) {
            Check.is(x.scheduleAt(i), orders[i], "the order at " + i);
        }
        Check.is(x.scheduleAt(orders.length), DrumRope.NONE, "the order behind the last");
    }

    /** "all orders that are not finished or cancelled and whose step at the drum has not begun". */
    private static void whatItContains() {
        DrumRope x = Check.shop(ALL_STATES);
        checkSchedule(x, 0, 1, 2, 3, 4);
        // at 1 order 0 waits at the drum
        x.advance(1);
        Check.is(x.queueLength(1), 1);
        checkSchedule(x, 0, 1, 2, 3, 4);
        x.advance(1);
        Check.is(x.workingOn(1), 0);
        checkSchedule(x, 1, 2, 3, 4);
        // 0 is worked on and 1 waits behind the drum, 2 is at the drum, 3 waits there
        x.advance(4);
        Check.is(x.workingOn(2), 0);
        Check.is(x.stepOf(1), 2);
        Check.is(x.isWorkedOn(1), false);
        Check.is(x.workingOn(1), 2);
        Check.is(x.queueLength(1), 1);
        checkSchedule(x, 3, 4);
        Check.is(x.cancel(4), 0);
        checkSchedule(x, 3);
        x.advance(100);
        Check.is(x.stateOf(3), 2);
        checkSchedule(x);
        checkSchedule(new DrumRope());
    }

    /** "They are sorted by their due times". */
    private static void sortedByDue() {
        DrumRope x = Check.shop("stations 1 0;product 0 1;order 0 1 30000;order 0 1 0;order 0 1 29999;order 0 1 1");
        checkSchedule(x, 1, 3, 2, 0);
        x.setDue(0, 0);
        checkSchedule(x, 0, 1, 3, 2);
        x.setDue(1, 30000);
        checkSchedule(x, 0, 3, 2, 1);
    }

    /** "of equal ones the smaller number first", however they became equal. */
    private static void smallerNumberFirst() {
        DrumRope x = Check.shop("stations 1 0;product 0 1" + ";order 0 1 70".repeat(24));
        for (int i = 0; i < 24; i++) {
            Check.is(x.scheduleAt(i), i);
        }
        x.setDue(5, 71);
        Check.is(x.scheduleAt(23), 5);
        x.setDue(5, 70);
        Check.is(x.scheduleAt(5), 5);
        x.setDue(5, 69);
        Check.is(x.scheduleAt(0), 5);
        Check.is(x.scheduleAt(24), -1);
    }

    /** "for the last one: its due time minus SHIPPING". */
    private static void endOfTheLast() {
        DrumRope x = Check.shop(TWO);
        Check.is(x.plannedStart(0), 42);
        x.setDue(0, 61);
        Check.is(x.plannedStart(0), 43);
        x.setDue(0, 30000);
        Check.is(x.plannedStart(0), 29982);
        DrumRope one = Check.shop("stations 1 0;buffers 1 1;product 0 1;order 0 1 3");
        Check.is(one.plannedStart(0), 1);
    }

    /** "the smaller one of its due time minus SHIPPING and the start of the next order". */
    private static void startOfTheNext() {
        DrumRope x = Check.shop(TWO);
        x.setDue(0, 100);
        Check.is(x.plannedStart(0), 82);
        x.setDue(1, 89);
        Check.is(x.plannedStart(1), 71);
        x.setDue(1, 90);
        Check.is(x.plannedStart(1), 72);
        x.setDue(1, 91);
        Check.is(x.plannedStart(1), 72);
        x.setDue(1, 99);
        Check.is(x.plannedStart(1), 72);
        Check.is(x.plannedStart(0), 82);
        // the next one in the schedule, not the one with the next number
        x.setDue(1, 101);
        Check.is(x.plannedStart(1), 83);
        Check.is(x.plannedStart(0), 73);
    }

    /** "an order that starts earlier than the earliest possible time starts then instead". */
    private static void earliestPossibleTime() {
        DrumRope x = Check.shop(TWO);
        x.advance(3);
        x.setDue(1, 22);
        Check.is(x.plannedStart(1), 4);
        x.setDue(1, 21);
        Check.is(x.plannedStart(1), 3);
        x.setDue(1, 20);
        Check.is(x.plannedStart(1), 3);
        x.setDue(1, 0);
        Check.is(x.plannedStart(1), 3);
        Check.is(x.plannedStart(0), 42);
    }

    /** "and ends so much later; .. and for the others the end of the order before". */
    private static void endOfTheOneBefore() {
        DrumRope x = Check.shop(TWO);
        x.setDue(1, 0);
        x.setDue(0, 29);
        Check.is(x.plannedStart(0), 11);
        x.setDue(0, 28);
        Check.is(x.plannedStart(0), 10);
        x.setDue(0, 27);
        Check.is(x.plannedStart(0), 10);
        x.addOrder(0, 3, 35);
        // 27 - 8 and 35 - 8 are its bounds from behind, 20 is the end of order 0
        Check.is(x.plannedStart(1), 0);
        Check.is(x.plannedStart(0), 10);
        Check.is(x.plannedStart(2), 21);
        x.setDue(2, 33);
        Check.is(x.plannedStart(2), 20);
    }

    /** "the present time plus the remaining ticks of the step on which the drum works". */
    private static void remainingTicks() {
        DrumRope x = Check.shop("stations 1 0;buffers 1 1;rope 500;setup 0 4;product 0 1;order 0 6 0;order 0 1 0");
        x.advance(1);
        Check.is(x.remaining(0), 9);
        Check.is(x.plannedStart(1), 10);
        x.advance(8);
        Check.is(x.remaining(0), 1);
        Check.is(x.plannedStart(1), 10);
        // while it is down the work that remains stays, and the plan moves
        x.stop(0, 7);
        x.advance(7);
        Check.is(x.now(), 16);
        Check.is(x.plannedStart(1), 17);
        x.advance(1);
        Check.is(x.stateOf(0), 2);
        Check.is(x.plannedStart(1), 17);
        // work at other stations does not count
        DrumRope other = Check.shop("stations 2 1;buffers 500 1;product 0 9 1 1;order 0 5 0;order 0 1 0");
        other.advance(5);
        Check.is(other.workingOn(0), 0);
        Check.is(other.plannedStart(0), 5);
        Check.is(other.plannedStart(1), 10);
    }

    /** "(0 if it works on none)": also if it is down. */
    private static void idleDrum() {
        DrumRope x = Check.shop("stations 1 0;buffers 1 1;product 0 5;order 0 1 0");
        x.stop(0, 50);
        Check.is(x.plannedStart(0), 0);
        x.advance(3);
        Check.is(x.stateOf(0), 1);
        Check.is(x.plannedStart(0), 3);
        Check.is(x.quote(0, 1), 14);
    }

    /** Promise 32: "if the drum has begun or finished it, when the drum began it"; "NO_TIME if it is cancelled". */
    private static void plannedStart() {
        DrumRope x = Check.shop(ALL_STATES);
        x.advance(1);
        Check.is(x.plannedStart(0), 3);
        x.advance(1);
        Check.is(x.plannedStart(0), 1);
        x.advance(4);
        Check.is(x.plannedStart(0), 1);
        Check.is(x.plannedStart(1), 3);
        Check.is(x.plannedStart(2), 5);
        Check.is(x.plannedStart(3), 33);
        Check.is(x.plannedStart(4), 8993);
        x.setDue(0, 777);
        Check.is(x.plannedStart(0), 1);
        x.advance(100);
        Check.is(x.stateOf(0), 2);
        Check.is(x.plannedStart(0), 1);
        Check.is(x.plannedStart(3), 7);
        x.cancel(4);
        Check.is(x.plannedStart(4), -1000000);
        // begun in the first tick of all: 0 is a time
        DrumRope zero = Check.shop("stations 1 0;buffers 500 1;product 0 1;order 0 9 200");
        Check.is(zero.plannedStart(0), 190);
        zero.advance(1);
        Check.is(zero.plannedStart(0), 0);
        Check.is(zero.scheduleAt(0), -1);
    }

    /** Promise 33: "NONE if there is no such index". */
    private static void scheduleAt() {
        DrumRope x = Check.shop(TWO);
        for (int bad : new int[] {-1, -2, 2, 3, 24, 25, Integer.MIN_VALUE, Integer.MAX_VALUE}) {
            Check.is(x.scheduleAt(bad), DrumRope.NONE);
            Check.is(new DrumRope().scheduleAt(bad), DrumRope.NONE);
        }
        Check.is(x.scheduleAt(0), 1);
        Check.is(x.scheduleAt(1), 0);
    }

    /** Promise 34: "later than its due time minus SHIPPING". */
    private static void atRisk() {
        DrumRope x = Check.shop(TWO);
        x.setDue(1, 19);
        Check.is(x.isAtRisk(1), false);
        x.setDue(1, 18);
        Check.is(x.isAtRisk(1), false);
        x.setDue(1, 17);
        Check.is(x.isAtRisk(1), true);
        x.setDue(0, 28);
        Check.is(x.isAtRisk(0), false);
        x.setDue(0, 27);
        Check.is(x.isAtRisk(0), true);
    }

    /** "false also if the order is not in the schedule": begun, finished or cancelled, however late. */
    private static void notInTheSchedule() {
        DrumRope x = Check.shop("stations 1 0;buffers 5 5;rope 500;product 0 9;order 0 9 0;order 0 9 0;order 0 9 0");
        x.advance(1);
        Check.is(x.isWorkedOn(0), true);
        Check.is(x.isAtRisk(0), false);
        Check.is(x.isAtRisk(1), true);
        Check.is(x.isAtRisk(2), true);
        x.cancel(2);
        Check.is(x.isAtRisk(2), false);
        x.advance(90);
        Check.is(x.stateOf(0), 2);
        Check.is(x.lateCount(), 1);
        Check.is(x.isAtRisk(0), false);
    }

    /** Section 3: "when the present time is at least its planned start in the schedule minus BUFFER". */
    private static void releaseTimeHasCome() {
        DrumRope x = Check.shop(TWO);
        x.advance(12);
        Check.is(x.now(), x.releaseTime(1));
        Check.is(x.stateOf(1), 0);
        x.advance(1);
        Check.is(x.stateOf(1), 1);
        Check.is(x.releasedAt(1), 12);
        // one whose time has come already when it is added is released in the next tick
        x.addOrder(0, 1, 0);
        x.advance(1);
        Check.is(x.releasedAt(2), 13);
        // and so it is while a station has yet to choose of those that wait
        DrumRope y = Check.shop("stations 1 0;buffers 500 5;rope 500;product 0 1;order 0 3 9;order 0 3 9");
        y.advance(3);
        Check.is(y.workingOn(0), -1);
        Check.is(y.queueLength(0), 1);
        y.addOrder(0, 4, 9);
        y.advance(1);
        Check.is(y.releasedAt(2), 3);
        Check.is(y.queueLength(0), 1);
        // the due time may bring it nearer or put it off until the last moment
        DrumRope z = Check.shop(TWO);
        z.advance(12);
        z.setDue(1, 41);
        z.advance(1);
        Check.is(z.stateOf(1), 0);
        z.advance(1);
        Check.is(z.releasedAt(1), 13);
    }

    /** Section 3: "and the released work plus its drum work is at most ROPE". */
    private static void ropeIsJustLongEnough() {
        for (int rope = 11; rope <= 13; rope++) {
            DrumRope x = Check.shop("stations 1 0;buffers 500 5;rope " + rope
                    + ";product 0 1;order 0 6 50;order 0 6 60;order 0 1 70");
            x.advance(1);
            Check.is(x.stateOf(0), 1);
            Check.is(x.stateOf(1), rope >= 12 ? 1 : 0);
            Check.is(x.stateOf(2), rope >= 13 ? 1 : 0);
        }
        DrumRope all = Check.shop("stations 1 0;buffers 500 5;rope 6;product 0 1;order 0 6 50");
        all.advance(1);
        Check.is(all.stateOf(0), 1);
        Check.is(all.ropeLoad(), 6);
    }

    /** Tick (1): "At the first one whose release time has come but whose drum work does not fit the rope, this ends." */
    private static void barredByTheFirst() {
        DrumRope x = Check.shop("stations 2 1;buffers 500 5;rope 10;product 0 1 1 1;order 0 1 70;order 0 6 60;"
                + "order 0 6 50");
        x.advance(1);
        Check.is(x.stateOf(2), 1);
        Check.is(x.stateOf(1), 0);
        Check.is(x.stateOf(0), 0);
        // without the one that bars it, the small one is released
        DrumRope y = Check.shop("stations 2 1;buffers 500 5;rope 10;product 0 1 1 1;order 0 1 70;order 0 6 60;"
                + "order 0 6 50");
        y.advance(1);
        y.cancel(1);
        y.advance(1);
        Check.is(y.releasedAt(0), 1);
        // and with a rope that is long enough for the first two, both are
        x.setRope(12);
        x.advance(1);
        Check.is(x.stateOf(1), 1);
        Check.is(x.stateOf(0), 0);
        x.setRope(13);
        x.advance(1);
        Check.is(x.stateOf(0), 1);
    }

    /** "the drum works of all released orders whose step at the drum is not finished". */
    private static void releasedWork() {
        DrumRope x = Check.shop("stations 3 1;buffers 500 5;rope 30;setup 1 3;product 0 1 1 2 2 5;order 0 5 100");
        Check.is(x.ropeLoad(), 0);
        x.advance(1);
        Check.is(x.ropeLoad(), 10);
        x.advance(4);
        Check.is(x.queueLength(1), 1);
        Check.is(x.ropeLoad(), 10);
        // begun, with its setup, and with one tick left: it counts as a whole and without the setup
        x.advance(1);
        Check.is(x.remaining(0), 12);
        Check.is(x.ropeLoad(), 10);
        x.advance(11);
        Check.is(x.remaining(0), 1);
        Check.is(x.ropeLoad(), 10);
        x.advance(1);
        Check.is(x.stepOf(0), 2);
        Check.is(x.ropeLoad(), 0);
        x.addOrder(0, 1, 5000);
        x.cancel(1);
        x.advance(50);
        Check.is(x.stateOf(0), 2);
        Check.is(x.ropeLoad(), 0);
    }

    /** Promise 20: "Work that is released stays released"; 35: "at most the greatest ROPE so far". */
    private static void ropeMadeShorter() {
        DrumRope x = Check.shop("stations 1 0;buffers 500 5;rope 12;product 0 1;order 0 6 50;order 0 6 60;order 0 1 70");
        x.advance(1);
        Check.is(x.setRope(1), 12);
        Check.is(x.ropeLoad(), 12);
        Check.is(x.rope(), 1);
        x.advance(11);
        Check.is(x.stateOf(0), 2);
        Check.is(x.stateOf(1), 2);
        Check.is(x.stateOf(2), 0);
        x.advance(1);
        Check.is(x.releasedAt(2), 12);
    }

    /** "Its release time at that moment is kept." */
    private static void keptReleaseTime() {
        DrumRope x = Check.shop("stations 1 0;buffers 4 5;rope 6;product 0 1;order 0 6 0;order 0 6 0");
        x.advance(2);
        Check.is(x.releaseTime(0), -4);
        Check.is(x.releaseTime(1), 2);
        // the drum stands still, with 4 ticks left, and order 1 waits for the rope
        x.stop(0, 10);
        x.advance(10);
        Check.is(x.releaseTime(1), 12);
        Check.is(x.releaseTime(0), -4);
        x.advance(4);
        Check.is(x.stateOf(1), 0);
        x.stop(0, 3);
        x.advance(1);
        Check.is(x.releasedAt(1), 16);
        Check.is(x.releaseTime(1), 12);
        x.advance(1);
        Check.is(x.plannedStart(1), 18);
        Check.is(x.releaseTime(1), 12);
        Check.is(x.penetration(1), 1500);
        x.setDue(1, 20000);
        Check.is(x.releaseTime(1), 12);
    }

    /** Promise 36: "for an order that was released, the one that was in force then; NO_TIME if it is cancelled". */
    private static void releaseTime() {
        DrumRope x = Check.shop(ALL_STATES);
        Check.is(x.releaseTime(0), -497);
        Check.is(x.releaseTime(4), 8493);
        x.setRope(2);
        // the rope does not matter to it
        Check.is(x.releaseTime(1), -487);
        x.advance(2);
        Check.is(x.stateOf(0), 1);
        Check.is(x.stateOf(1), 0);
        Check.is(x.releaseTime(0), -497);
        Check.is(x.releaseTime(1), -487);
        x.advance(100);
        Check.is(x.stateOf(0), 2);
        Check.is(x.releaseTime(0), -497);
        x.cancel(4);
        Check.is(x.releaseTime(4), -1000000);
    }

    /** Promise 51: "the smallest time, at least the present time plus BUFFER". */
    private static void quoteFromThePresentOn() {
        DrumRope x = Check.shop("stations 1 0;buffers 7 3;product 0 1");
        Check.is(x.quote(0, 1), 11);
        x.advance(5);
        Check.is(x.quote(0, 1), 16);
        Check.is(x.quote(0, 50), 65);
        for (int i = 0; i < 59; i++) {
            x.advance(500);
        }
        x.advance(495);
        Check.is(x.now(), 30000);
        Check.is(x.quote(0, 1), 30011);
    }

    /** Section 2: "if t is at least the earliest possible time of the first order". */
    private static void quoteBehindTheDrumsWork() {
        DrumRope x = Check.shop("stations 1 0;buffers 5 8;rope 500;product 0 10;order 0 10 0");
        x.advance(94);
        Check.is(x.quote(0, 1), 118);
        x.advance(1);
        Check.is(x.quote(0, 1), 118);
        x.advance(1);
        Check.is(x.quote(0, 1), 119);
        // the drum's work is no order of the schedule, but nothing fits before its end
        Check.is(x.scheduleAt(0), -1);
    }

    /** Section 2: "its drum work from t on overlaps no order of the schedule". */
    private static void quoteInAGap() {
        DrumRope x = Check.shop("stations 1 0;buffers 10 8;rope 500;product 0 1;order 0 10 40;order 0 10 60");
        // planned 22 to 32 and 42 to 52; from 10 on there are 12 ticks, then 10
        Check.is(x.plannedStart(0), 22);
        Check.is(x.plannedStart(1), 42);
        Check.is(x.quote(0, 11), 29);
        Check.is(x.quote(0, 12), 30);
        Check.is(x.quote(0, 13), 73);
        x.advance(3);
        Check.is(x.quote(0, 9), 30);
        Check.is(x.quote(0, 10), 50);
        Check.is(x.quote(0, 11), 71);
        x.advance(8);
        // 21 is free for one tick
        Check.is(x.quote(0, 1), 30);
        Check.is(x.quote(0, 2), 42);
        x.advance(1);
        Check.is(x.quote(0, 1), 41);
        // begun ahead of its time, order 0 leaves its place
        x.advance(1);
        Check.is(x.isWorkedOn(0), true);
        Check.is(x.quote(0, 19), 50);
        Check.is(x.quote(0, 20), 80);
        Check.is(x.orderCount(), 2);
    }

    /** "TOO_LARGE if its drum work is greater than ROPE"; a full shop gets a quote, too. */
    private static void quoteTooLarge() {
        DrumRope x = Check.shop("stations 2 1;rope 30;product 0 20 1 6" + ";order 0 1 30000".repeat(24));
        Check.is(x.quote(0, 5), 70);
        Check.is(x.quote(0, 6), DrumRope.TOO_LARGE);
        x.setRope(29);
        Check.is(x.quote(0, 5), DrumRope.TOO_LARGE);
        x.setRope(36);
        Check.is(x.quote(0, 6), 76);
    }

    /** Behind the last of 24 orders, and between the first and the second. */
    private static void quoteOfManyOrders() {
        DrumRope x = Check.shop("stations 1 0;buffers 1 1;rope 5000;product 0 20" + ";order 0 50 0".repeat(24));
        Check.is(x.plannedStart(23), 23000);
        Check.is(x.quote(0, 50), 25001);
        x.setDue(0, 30000);
        Check.is(x.plannedStart(0), 28999);
        Check.is(x.quote(0, 50), 24001);
        Check.is(x.addOrder(0, 50, 24001), DrumRope.FULL);
    }
}
