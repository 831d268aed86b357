/**
 * Promises 6 to 31, 49, 50 and 58 to 61 at their boundaries; above each test stands the sentence that
 * it is for. What is refused, and that it changes nothing, is RefusalTest's.
 */
public final class OrderEdgeTest {
    /** One order in each state: 0 finished, 1 worked on, 2 waiting, 3 not released, 4 cancelled. */
    private static final String ALL_STATES = "stations 3 1;buffers 500 5;rope 500;product 0 1 1 2 2 3;order 0 1 10;"
            + "order 0 2 20;order 0 2 30;order 0 1 9000;order 0 1 9000";

    public static void main(String[] args) {
        counts();
        lastOnes();
        stepCount();
        stepAt();
        workOf();
        drumWork();
        nowAndAdvance();
        advanceToTheEnd();
        finishedInTheseTicks();
        addOrder();
        addOrderTooLarge();
        addOrderFull();
        cancel();
        setDue();
        expedite();
        setRule();
        setRope();
        stop();
        states();
        steps();
        work();
        times();
        late();
        flow();
        meanFlow();
        loadOf();
        bottleneck();
        Check.end();
    }

    /** At 6: finished, worked on at the drum, waiting there, not released, cancelled. */
    private static DrumRope allStates() {
        DrumRope x = Check.shop(ALL_STATES);
        x.cancel(4);
        x.advance(6);
        int[] states = {2, 1, 1, 0, 3};
        for (int i = 0; i < 5; i++) {
            Check.is(x.stateOf(i), states[i], "the state of " + i);
        }
        return x;
    }

    /** Promises 6 to 8: "Returns 1 to 6", "0 to 6", "the number of orders, whatever their states", 0 to 24. */
    private static void counts() {
        for (int count = 1; count <= 6; count++) {
            DrumRope x = Check.shop("stations " + count + " 0" + ";product 0 1".repeat(count - 1));
            Check.is(x.stationCount(), count);
            Check.is(x.productCount(), count - 1);
            Check.is(x.orderCount(), 0);
        }
        Check.is(Check.shop("stations 1 0" + ";product 0 1".repeat(6)).productCount(), 6);
        Check.is(allStates().orderCount(), 5);
        DrumRope full = Check.shop("stations 1 0;product 0 1" + ";order 0 1 500".repeat(24));
        for (int i = 0; i < 24; i++) {
            full.cancel(i);
        }
        Check.is(full.orderCount(), 24);
    }

    /** "if there is no such product", "station", "order": the last one there is, and the next number. */
    private static void lastOnes() {
        DrumRope x = Check.shop("stations 6 5;buffers 5 5" + ";product 5 1 0 2".repeat(6) + ";order 5 1 9000".repeat(23));
        Check.is(x.stepCount(5), 2);
        Check.is(x.stepAt(5, 1, 1), 2);
        Check.is(x.workOf(5, 1), 3);
        Check.is(x.drumWork(5, 1), 1);
        Check.is(x.quote(5, 1), 11);
        Check.is(x.finishIfAdded(5, 1, 0), 3);
        Check.index(() -> x.stepCount(6));
        Check.index(() -> x.stepAt(6, 0, 0));
        Check.index(() -> x.workOf(6, 1));
        Check.index(() -> x.drumWork(6, 1));
        Check.index(() -> x.quote(6, 1));
        Check.index(() -> x.finishIfAdded(6, 1, 0));
        Check.index(() -> x.addOrder(6, 1, 0));
        Check.index(() -> x.stateOf(23));
        Check.is(x.addOrder(5, 1, 9000), 23);
        Check.is(x.stateOf(23), 0);
        Check.is(x.plannedStart(23), 8994);
        Check.is(x.expedite(23, true), false);
        Check.is(x.setDue(23, 9001), 9000);
        Check.is(x.cancel(23), 23);
        Check.is(x.workingOn(5), -1);
        Check.is(x.queueLength(5), 0);
        Check.is(x.nextChoice(5), -1);
        Check.is(x.busyTicks(5), 0);
        Check.is(x.setups(5), 0);
        Check.is(x.redAt(5), 0);
        Check.is(x.loadOf(5), 23);
        Check.is(x.stop(5, 1), 1);
        Check.is(x.downUntil(5), 1);
        Check.index(() -> x.workingOn(6));
        Check.index(() -> x.queueLength(6));
        Check.index(() -> x.nextChoice(6));
        Check.index(() -> x.busyTicks(6));
        Check.index(() -> x.setups(6));
        Check.index(() -> x.redAt(6));
        Check.index(() -> x.loadOf(6));
        Check.index(() -> x.stop(6, 1));
        Check.index(() -> x.downUntil(6));
    }

    /** Promise 9: "Returns 1 to 6", "if there is no such product". */
    private static void stepCount() {
        for (int count = 1; count <= 6; count++) {
            DrumRope x = Check.shop("stations 2 0;product 0 1" + " 1 1".repeat(count - 1));
            Check.is(x.stepCount(0), count);
            Check.index(() -> x.stepCount(1));
            Check.index(() -> x.stepCount(-1));
        }
        Check.index(() -> new DrumRope().stepCount(0));
        DrumRope six = Check.shop("stations 2 0;product 0 1;product 0 1;product 0 1;product 0 1;product 0 1;product 0 1 1 1");
        Check.is(six.stepCount(5), 2);
        Check.index(() -> six.stepCount(6));
    }

    /** Promise 10: "NONE if there is no such step", "what is out of range". */
    private static void stepAt() {
        DrumRope x = Check.shop("stations 6 3;product 0 1 1 20 2 3 3 4 4 5 5 6;product 3 7");
        int[] times = {1, 20, 3, 4, 5, 6};
        for (int k = 0; k < 6; k++) {
            Check.is(x.stepAt(0, k, 0), k);
            Check.is(x.stepAt(0, k, 1), times[k]);
        }
        for (int bad : new int[] {-1, 6, 7, Integer.MIN_VALUE, Integer.MAX_VALUE}) {
            Check.is(x.stepAt(0, bad, 0), DrumRope.NONE);
            Check.is(x.stepAt(0, bad, 1), DrumRope.NONE);
        }
        Check.is(x.stepAt(1, 0, 1), 7);
        Check.is(x.stepAt(1, 1, 1), DrumRope.NONE);
        for (int bad : new int[] {-1, 2, Integer.MIN_VALUE, Integer.MAX_VALUE}) {
            Check.argument(() -> x.stepAt(0, 0, bad));
            Check.argument(() -> x.stepAt(0, 99, bad));
            Check.index(() -> x.stepAt(bad, 0, 0));
            Check.index(() -> x.stepAt(bad, 0, 9));
        }
    }

    /** Promise 11: "the sum of time * quantity", "without setups", "quantity: 1 to 50". */
    private static void workOf() {
        DrumRope x = Check.shop("stations 2 0;setup 0 50;setup 1 50;rope 1;product 0 20 1 20 1 20 1 20 1 20 1 20;product 0 1");
        Check.is(x.workOf(0, 1), 120);
        Check.is(x.workOf(0, 50), 6000);
        Check.is(x.workOf(1, 1), 1);
        Check.is(x.workOf(1, 50), 50);
    }

    /** Promise 12: "time * quantity of its step at the drum", wherever that step is. */
    private static void drumWork() {
        DrumRope x = Check.shop("stations 3 2;setup 2 50;rope 1;product 2 20;product 0 3 1 4 0 5 1 6 0 7 2 8;product 0 9 2 1 1 9");
        Check.is(x.drumWork(0, 1), 20);
        Check.is(x.drumWork(0, 50), 1000);
        Check.is(x.drumWork(1, 1), 8);
        Check.is(x.drumWork(1, 50), 400);
        Check.is(x.drumWork(2, 50), 50);
    }

    /** Promise 14: "ticks: 1 to 500". */
    private static void nowAndAdvance() {
        DrumRope x = new DrumRope();
        Check.is(x.now(), 0);
        Check.is(x.advance(1), 0);
        Check.is(x.now(), 1);
        Check.is(x.advance(500), 0);
        Check.is(x.now(), 501);
        for (int bad : new int[] {0, 501, -1, -500, Integer.MIN_VALUE, Integer.MAX_VALUE}) {
            Check.argument(() -> x.advance(bad));
        }
        Check.is(x.now(), 501);
    }

    /** "FULL if the time would be greater than 30000". */
    private static void advanceToTheEnd() {
        DrumRope x = new DrumRope();
        for (int i = 0; i < 59; i++) {
            Check.is(x.advance(500), 0);
        }
        Check.is(x.advance(1), 0);
        Check.is(x.now(), 29501);
        Check.is(x.advance(500), DrumRope.FULL);
        Check.is(x.now(), 29501);
        Check.is(x.advance(499), 0);
        Check.is(x.now(), 30000);
        for (int ticks : new int[] {1, 2, 499, 500}) {
            Check.is(x.advance(ticks), DrumRope.FULL);
        }
        Check.is(x.now(), 30000);
    }

    /** "Returns the number of orders that were finished in these ticks". */
    private static void finishedInTheseTicks() {
        DrumRope x = Check.shop("stations 2 0;buffers 500 5;product 0 1;product 0 1 1 1;order 0 1 0;order 1 2 0;order 0 1 0");
        // the drum ends them at 1, 3 and 4; station 1 ends order 1 at 5
        Check.is(x.advance(1), 1);
        Check.is(x.advance(2), 0);
        Check.is(x.advance(1), 1);
        Check.is(x.advance(1), 1);
        Check.is(x.advance(500), 0);
        DrumRope all = Check.shop("stations 1 0;buffers 500 5;product 0 1" + ";order 0 1 0".repeat(24));
        Check.is(all.advance(24), 24);
        // two stations end an order in the same tick
        DrumRope two = Check.shop("stations 2 0;buffers 500 5;product 0 2;product 0 1 1 2;order 1 1 0;order 0 1 0");
        Check.is(two.advance(2), 0);
        Check.is(two.advance(1), 2);
    }

    /** Promise 15: "quantity: 1 to 50", "due: .. 0 to 30000"; the order is as if it had been in the text. */
    private static void addOrder() {
        String text = "stations 2 1;product 0 1 1 2";
        DrumRope x = Check.shop(text);
        Check.is(x.addOrder(0, 1, 0), 0);
        Check.is(x.addOrder(0, 50, 30000), 1);
        Check.is(x.addOrder(0, 50, 0), 2);
        Check.is(x.addOrder(0, 1, 30000), 3);
        DrumRope y = Check.shop(text + ";order 0 1 0;order 0 50 30000;order 0 50 0;order 0 1 30000");
        Check.is(Questions.everything(x), Questions.everything(y), "all of a shop with orders that were added");
        // one that takes the place of an order of an earlier text has nothing of it
        DrumRope z = Check.shop("stations 1 0;buffers 500 5;product 0 1;order 0 9 0;order 0 9 0");
        z.expedite(0, true);
        z.advance(15);
        Check.is(z.firstRedAt(0), 0);
        Check.is(Check.load(z, text), 0);
        Check.is(z.addOrder(0, 1, 0), 0);
        Check.is(z.addOrder(0, 50, 30000), 1);
        Check.is(z.addOrder(0, 50, 0), 2);
        Check.is(z.addOrder(0, 1, 30000), 3);
        DrumRope again = Check.shop(text + ";order 0 1 0;order 0 50 30000;order 0 50 0;order 0 1 30000");
        Check.is(Questions.everything(z), Questions.everything(again), "all of a shop with new orders");
    }

    /** "TOO_LARGE if its drum work is greater than ROPE". */
    private static void addOrderTooLarge() {
        DrumRope x = Check.shop("stations 2 1;rope 30;product 0 20 1 6;product 1 1");
        Check.is(x.addOrder(0, 6, 0), DrumRope.TOO_LARGE);
        Check.is(x.addOrder(0, 5, 0), 0);
        Check.is(x.addOrder(1, 31, 0), DrumRope.TOO_LARGE);
        Check.is(x.addOrder(1, 30, 0), 1);
        x.cancel(0);
        x.cancel(1);
        x.setRope(29);
        Check.is(x.addOrder(0, 5, 0), DrumRope.TOO_LARGE);
        Check.is(x.addOrder(1, 29, 0), 2);
        // work that is on the rope does not count, only the length of the rope
        x.advance(1);
        Check.is(x.ropeLoad(), 29);
        Check.is(x.addOrder(1, 29, 0), 3);
    }

    /** "FULL if there are 24 orders", in whatever states. */
    private static void addOrderFull() {
        DrumRope x = Check.shop("stations 1 0;buffers 500 5;product 0 1" + ";order 0 1 0".repeat(23));
        x.advance(20);
        Check.is(x.addOrder(0, 1, 9000), 23);
        Check.is(x.addOrder(0, 1, 9000), DrumRope.FULL);
        x.cancel(23);
        Check.is(x.addOrder(0, 1, 9000), DrumRope.FULL);
        x.advance(20);
        Check.is(x.addOrder(0, 1, 9000), DrumRope.FULL);
        Check.is(x.orderCount(), 24);
        // with another text there is room again
        Check.is(Check.load(x, "stations 1 0;product 0 1"), 0);
        Check.is(x.addOrder(0, 1, 9000), 0);
    }

    /** Promise 16: "the number of orders that are not released then; WRONG_STATE if .. released, finished or cancelled". */
    private static void cancel() {
        DrumRope x = allStates();
        Check.is(x.cancel(0), DrumRope.WRONG_STATE);
        Check.is(x.cancel(1), DrumRope.WRONG_STATE);
        Check.is(x.cancel(2), DrumRope.WRONG_STATE);
        Check.is(x.cancel(4), DrumRope.WRONG_STATE);
        Check.is(x.addOrder(0, 1, 9000), 5);
        Check.is(x.cancel(3), 1);
        Check.is(x.cancel(3), DrumRope.WRONG_STATE);
        Check.is(x.cancel(5), 0);
        DrumRope full = Check.shop("stations 1 0;product 0 1" + ";order 0 1 500".repeat(24));
        Check.is(full.cancel(23), 23);
        Check.is(full.cancel(0), 22);
    }

    /** Promise 17: "due: 0 to 30000"; "WRONG_STATE if the order is finished or cancelled". */
    private static void setDue() {
        DrumRope x = allStates();
        Check.is(x.setDue(0, 0), DrumRope.WRONG_STATE);
        Check.is(x.setDue(4, 0), DrumRope.WRONG_STATE);
        Check.is(x.dueOf(0), 10);
        Check.is(x.dueOf(4), 9000);
        int[] due = {20, 30, 9000};
        for (int i = 1; i <= 3; i++) {
            Check.is(x.setDue(i, 0), due[i - 1]);
            Check.is(x.setDue(i, 30000), 0);
            Check.is(x.dueOf(i), 30000);
        }
        // the due time that is in force at the end decides how late it is
        DrumRope y = Check.shop("stations 1 0;buffers 500 5;product 0 1;order 0 9 0");
        y.advance(8);
        y.setDue(0, 7);
        y.advance(1);
        Check.is(y.tardiness(), 2);
    }

    /** Promise 18: "Returns whether it was marked before", in every state. */
    private static void expedite() {
        DrumRope x = allStates();
        for (int i = 0; i < 5; i++) {
            Check.is(x.expedite(i, false), false);
            Check.is(x.expedite(i, true), false);
            Check.is(x.expedite(i, true), true);
        }
        for (int i = 0; i < 5; i++) {
            Check.is(x.expedite(i, false), true);
            Check.is(x.expedite(i, false), false);
        }
        for (int bad : new int[] {-1, 5, 24, Integer.MIN_VALUE, Integer.MAX_VALUE}) {
            Check.index(() -> x.expedite(bad, true));
            Check.index(() -> x.expedite(bad, false));
        }
        // a mark outlasts the end of an order
        x.expedite(1, true);
        x.expedite(3, true);
        x.cancel(3);
        x.advance(100);
        Check.is(x.stateOf(1), 2);
        Check.is(x.expedite(1, true), true);
        Check.is(x.expedite(3, true), true);
    }

    /** Promise 19: "rule: 0 to 3", "Returns the previous rule". */
    private static void setRule() {
        DrumRope x = new DrumRope();
        Check.is(x.setRule(3), 0);
        Check.is(x.setRule(2), 3);
        Check.is(x.setRule(1), 2);
        Check.is(x.setRule(0), 1);
        Check.is(x.setRule(0), 0);
        for (int bad : new int[] {-1, 4, Integer.MIN_VALUE, Integer.MAX_VALUE}) {
            Check.argument(() -> x.setRule(bad));
        }
        Check.is(x.setRule(0), 0);
    }

    /** Promise 20: "rope: 1 to 5000"; "TOO_LARGE if there is an order that is not released with a greater drum work". */
    private static void setRope() {
        DrumRope empty = new DrumRope();
        Check.is(empty.setRope(1), 100);
        Check.is(empty.setRope(5000), 1);
        Check.is(empty.rope(), 5000);
        for (int bad : new int[] {0, 5001, -1, Integer.MIN_VALUE, Integer.MAX_VALUE}) {
            Check.argument(() -> empty.setRope(bad));
        }
        Check.is(empty.rope(), 5000);
        DrumRope x = Check.shop("stations 1 0;buffers 10 5;rope 500;product 0 1;order 0 30 9000;order 0 40 0;order 0 50 9000");
        Check.is(x.setRope(49), DrumRope.TOO_LARGE);
        Check.is(x.rope(), 500);
        Check.is(x.setRope(50), 500);
        x.cancel(2);
        Check.is(x.setRope(39), DrumRope.TOO_LARGE);
        Check.is(x.setRope(40), 50);
        // the released, the finished and the cancelled one do not count
        x.advance(1);
        Check.is(x.setRope(29), DrumRope.TOO_LARGE);
        Check.is(x.setRope(30), 40);
        x.advance(50);
        Check.is(x.stateOf(1), 2);
        Check.is(x.setRope(29), DrumRope.TOO_LARGE);
        x.cancel(0);
        Check.is(x.setRope(1), 30);
        Check.is(x.setRope(1), 1);
    }

    /** Promise 22: "ticks: 0 to 500"; "the present time plus ticks, whatever it was before". */
    private static void stop() {
        DrumRope x = Check.shop("stations 6 0");
        Check.is(x.stop(5, 500), 500);
        Check.is(x.stop(5, 499), 499);
        Check.is(x.stop(5, 500), 500);
        Check.is(x.stop(5, 0), 0);
        Check.is(x.downUntil(5), -1);
        for (int i = 0; i < 60; i++) {
            x.advance(500);
        }
        Check.is(x.stop(0, 500), 30500);
        Check.is(x.downUntil(0), 30500);
        Check.is(x.stop(0, 0), 30000);
        Check.is(x.downUntil(0), -1);
    }

    /** Promises 23 to 26: "0 not released, 1 released, 2 finished, 3 cancelled", and what never changes. */
    private static void states() {
        DrumRope x = allStates();
        int[] quantities = {1, 2, 2, 1, 1};
        int[] due = {10, 20, 30, 9000, 9000};
        for (int i = 0; i < 5; i++) {
            Check.is(x.productOf(i), 0);
            Check.is(x.quantityOf(i), quantities[i]);
            Check.is(x.dueOf(i), due[i]);
        }
    }

    /** Promise 27: "NONE if it is not released; the number of steps if it is finished; NONE if it is cancelled". */
    private static void steps() {
        DrumRope x = allStates();
        int[] steps = {3, 1, 1, -1, -1};
        for (int i = 0; i < 5; i++) {
            Check.is(x.stepOf(i), steps[i], "the step of " + i);
        }
        DrumRope one = Check.shop("stations 1 0;buffers 500 5;product 0 1;order 0 1 0");
        Check.is(one.stepOf(0), -1);
        one.advance(1);
        Check.is(one.stepOf(0), 1);
        DrumRope six = Check.shop("stations 2 0;buffers 500 5;product 0 1 1 1 1 1 1 1 1 1 1 1;order 0 1 0");
        for (int k = 1; k <= 6; k++) {
            six.advance(1);
            Check.is(six.stepOf(0), k);
        }
        Check.is(six.stateOf(0), 2);
    }

    /** Promises 28 and 29: "true if it has"; "0 if no station has begun it". */
    private static void work() {
        DrumRope x = allStates();
        for (int i = 0; i < 5; i++) {
            Check.is(x.isWorkedOn(i), i == 1, "whether " + i + " is worked on");
            Check.is(x.remaining(i) > 0, i == 1, "whether work remains for " + i);
        }
        Check.is(x.remaining(1), 1);
        // begun, and then the station is stopped: it has begun it all the same
        x.stop(1, 9);
        Check.is(x.isWorkedOn(1), true);
        x.advance(8);
        Check.is(x.downUntil(1), 15);
        Check.is(x.isWorkedOn(1), true);
        Check.is(x.remaining(1), 1);
    }

    /** Promises 30 and 31: "NONE if it is not released"; "NONE if it is not finished". */
    private static void times() {
        DrumRope x = allStates();
        int[] released = {0, 0, 0, -1, -1};
        for (int i = 0; i < 5; i++) {
            Check.is(x.releasedAt(i), released[i], "when " + i + " was released");
            Check.is(x.finishedAt(i) >= 0, i == 0, "whether " + i + " is finished");
        }
        Check.is(x.finishedAt(0), 6);
    }

    /** Promises 49 and 50: "finished after their due time"; "how much later than due they were finished". */
    private static void late() {
        for (int due = 8; due <= 10; due++) {
            DrumRope x = Check.shop("stations 1 0;buffers 500 5;product 0 1;order 0 9 " + due + ";order 0 9 0");
            x.cancel(1);
            Check.is(x.lateCount(), 0);
            x.advance(8);
            Check.is(x.lateCount(), 0);
            Check.is(x.tardiness(), 0);
            x.advance(1);
            Check.is(x.lateCount(), due == 8 ? 1 : 0);
            Check.is(x.tardiness(), due == 8 ? 1 : 0);
        }
        // one that is early does not make up for one that is late, and one at work does not count
        DrumRope y = Check.shop("stations 1 0;buffers 500 5;product 0 1;order 0 9 400;order 0 9 400;order 0 9 0");
        y.advance(26);
        Check.is(y.stateOf(1), 2);
        Check.is(y.tardiness(), 0);
        Check.is(y.lateCount(), 0);
        y.advance(1);
        Check.is(y.tardiness(), 27);
        Check.is(y.lateCount(), 1);
    }

    /** Promise 58: "from its release to its end, or to the present time"; "NONE if it was not released". */
    private static void flow() {
        DrumRope x = allStates();
        int[] flow = {6, 6, 6, -1, -1};
        for (int i = 0; i < 5; i++) {
            Check.is(x.flowTime(i), flow[i], "the flow time of " + i);
        }
        x.advance(1);
        Check.is(x.flowTime(0), 6);
        Check.is(x.flowTime(1), 7);
        DrumRope y = Check.shop("stations 1 0;buffers 10 10;product 0 2;order 0 5 100");
        y.advance(70);
        Check.is(y.flowTime(0), -1);
        y.advance(1);
        Check.is(y.flowTime(0), 1);
        y.advance(50);
        Check.is(y.flowTime(0), 10);
    }

    /** Promise 59: "the sum of their flow times divided by their number; NONE if there are none". */
    private static void meanFlow() {
        Check.is(new DrumRope().meanFlow(), -1);
        DrumRope x = Check.shop("stations 1 0;buffers 500 5;product 0 1;order 0 1 1;order 0 1 2;order 0 3 3;order 0 1 9000");
        Check.is(x.meanFlow(), -1);
        x.advance(1);
        Check.is(x.meanFlow(), 1);
        x.advance(1);
        // 1 and 2, then 1, 2 and 5
        Check.is(x.meanFlow(), 1);
        x.advance(2);
        Check.is(x.meanFlow(), 1);
        x.advance(1);
        Check.is(x.meanFlow(), 2);
        x.cancel(3);
        x.advance(100);
        Check.is(x.meanFlow(), 2);
    }

    /** Promise 60: "what remains of the step on which it works, and time * quantity of all steps there not begun". */
    private static void loadOf() {
        DrumRope x = Check.shop("stations 3 1;buffers 500 5;rope 500;setup 0 9;setup 1 9;product 0 1 1 2 0 3;order 0 5 10;"
                + "order 0 1 9000;order 0 1 9000");
        Check.is(x.loadOf(0), 28);
        Check.is(x.loadOf(1), 14);
        Check.is(x.loadOf(2), 0);
        x.cancel(2);
        Check.is(x.loadOf(0), 24);
        Check.is(x.loadOf(1), 12);
        // the setup counts as soon as the step is begun: 14 - 1, and 15 + 4
        x.advance(1);
        Check.is(x.loadOf(0), 32);
        x.advance(12);
        Check.is(x.remaining(0), 1);
        Check.is(x.loadOf(0), 20);
        x.advance(1);
        Check.is(x.queueLength(1), 1);
        Check.is(x.loadOf(0), 19);
        Check.is(x.loadOf(1), 12);
        x.advance(1);
        Check.is(x.loadOf(1), 20);
        x.stop(1, 5);
        x.advance(5);
        Check.is(x.loadOf(1), 20);
        x.cancel(1);
        x.advance(100);
        Check.is(x.stateOf(0), 2);
        Check.is(x.loadOf(0), 0);
        Check.is(x.loadOf(1), 0);
    }

    /** Promise 61: "the smallest of several". */
    private static void bottleneck() {
        Check.is(new DrumRope().bottleneck(), 0);
        Check.is(Check.shop("stations 6 5").bottleneck(), 0);
        Check.is(Check.shop("stations 3 1;product 1 1;order 0 1 9000").bottleneck(), 1);
        DrumRope x = Check.shop("stations 6 5;rope 500;product 4 3 5 3;product 3 1 5 1;order 0 2 9000");
        Check.is(x.bottleneck(), 4);
        x.addOrder(1, 1, 9000);
        Check.is(x.bottleneck(), 5);
        x.addOrder(1, 6, 9000);
        Check.is(x.bottleneck(), 5);
        x.cancel(0);
        Check.is(x.loadOf(3), 7);
        Check.is(x.loadOf(5), 7);
        Check.is(x.bottleneck(), 3);
        // station 0 takes part as well
        DrumRope y = Check.shop("stations 2 1;product 0 3 1 3;product 0 2 1 3;order 0 1 9000");
        Check.is(y.bottleneck(), 0);
        y.addOrder(1, 1, 9000);
        Check.is(y.bottleneck(), 1);
    }
}
