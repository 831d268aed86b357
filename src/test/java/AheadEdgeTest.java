/**
 * Promises 52 to 56 and 62 to 64 at their boundaries; above each test stands the sentence that it is
 * for. That predictions change nothing is RefusalTest's.
 */
public final class AheadEdgeTest {
    /** Drum work 10 each; one that is due at d is finished at d - 13. */
    private static final String TWO = "stations 2 1;buffers 10 8;rope 30;product 0 1 1 2;order 0 5 60;order 0 5 40";
    /** A work of 6000 ticks. */
    private static final String ENDLESS = "stations 2 0;buffers 500 5;rope 1000;"
            + "product 0 20 1 20 1 20 1 20 1 20 1 20;order 0 50 100";
    private static final String SHOP = "stations 3 1;buffers 30 20;rope 60;rule 1;auto 1;setup 0 3;setup 2 1;"
            + "product 0 2 1 3 2 1;product 2 4 1 2;order 0 4 90;order 1 3 40;order 0 5 70;order 1 9 300";

    public static void main(String[] args) {
        finishIfAdded();
        finishIfAddedRefused();
        finishOf();
        finishOfOtherStates();
        asItComes();
        asSection4Tells();
        notLimitedByTime();
        tardinessAtTheHorizon();
        tardinessOfAll();
        bestRule();
        neededRope();
        neededRopeByRule();
        neededRopeLeavesOut();
        neededRopeAgainst1000();
        bestExpedite();
        bestExpediteOfThese();
        savesAtAnyTime();
        nothingSaved();
        snapshotStays();
        snapshotsAreApart();
        exceptOfTheSnapshot();
        largerAndSmallerShops();
        Check.end();
    }

    /** Promise 52: "NONE if it is not finished within 2000 ticks", counted from the present time. */
    private static void finishIfAdded() {
        DrumRope x = Check.shop(TWO);
        Check.is(x.finishIfAdded(0, 5, 2012), 1999);
        Check.is(x.finishIfAdded(0, 5, 2013), 2000);
        Check.is(x.finishIfAdded(0, 5, 2014), DrumRope.NONE);
        x.advance(7);
        Check.is(x.finishIfAdded(0, 5, 2020), 2007);
        Check.is(x.finishIfAdded(0, 5, 2021), DrumRope.NONE);
        Check.is(x.finishIfAdded(0, 1, 30000), DrumRope.NONE);
        // the smallest and the greatest that is allowed
        Check.is(x.finishIfAdded(0, 1, 0), 10);
        Check.is(x.finishIfAdded(0, 15, 0), 52);
        Check.is(x.orderCount(), 2);
    }

    /** "FULL and TOO_LARGE as addOrder(int, int, int)". */
    private static void finishIfAddedRefused() {
        DrumRope x = Check.shop("stations 1 0;buffers 500 5;rope 40;product 0 2" + ";order 0 1 30000".repeat(23));
        Check.is(x.finishIfAdded(0, 20, 0), 40);
        Check.is(x.finishIfAdded(0, 21, 0), DrumRope.TOO_LARGE);
        Check.is(x.addOrder(0, 1, 30000), 23);
        Check.is(x.finishIfAdded(0, 20, 0), DrumRope.FULL);
        Check.is(x.finishIfAdded(0, 21, 0), DrumRope.FULL);
    }

    /** Promise 53: "NONE if it is cancelled or not finished within 2000 ticks". */
    private static void finishOf() {
        DrumRope x = Check.shop(TWO + ";order 0 5 2013;order 0 5 2500");
        Check.is(x.finishOf(2), 2000);
        x.setDue(2, 2014);
        Check.is(x.finishOf(2), DrumRope.NONE);
        x.advance(1);
        Check.is(x.finishOf(2), 2001);
        Check.is(x.finishOf(3), DrumRope.NONE);
        x.advance(486);
        Check.is(x.finishOf(3), 2487);
        x.cancel(3);
        Check.is(x.finishOf(3), DrumRope.NONE);
    }

    /** "Returns the time, also of one that is finished already". */
    private static void finishOfOtherStates() {
        DrumRope x = Check.shop("stations 1 0;buffers 500 5;product 0 1;order 0 1 0;order 0 5 0");
        Check.is(x.finishOf(0), 1);
        Check.is(x.finishOf(1), 6);
        x.advance(1);
        Check.is(x.finishOf(0), 1);
        x.advance(1);
        Check.is(x.finishOf(1), 6);
        for (int i = 0; i < 10; i++) {
            x.advance(500);
        }
        Check.is(x.finishOf(0), 1);
        Check.is(x.finishOf(1), 6);
    }

    /** "if nothing changes but time": what was predicted comes. */
    private static void asItComes() {
        DrumRope x = Check.shop(SHOP);
        x.stop(1, 40);
        x.advance(9);
        int added = x.finishIfAdded(1, 5, 120);
        Check.is(x.addOrder(1, 5, 120), 4);
        int[] due = new int[5];
        for (int i = 0; i < 5; i++) {
            due[i] = x.finishOf(i);
        }
        int sum = x.tardinessAhead(1);
        Check.is(due[4], added);
        x.advance(500);
        for (int i = 0; i < 5; i++) {
            Check.is(x.finishedAt(i), due[i]);
        }
        Check.is(x.tardiness(), sum);
    }

    /** "Predictions simulate ticks as section 4 tells": by the present rule, with AUTO, marks and stops. */
    private static void asSection4Tells() {
        DrumRope x = Check.shop("stations 1 0;buffers 500 5;rope 500;product 0 1;order 0 20 25;order 0 2 5");
        Check.is(x.finishOf(1), 22);
        Check.is(x.finishIfAdded(0, 1, 0), 23);
        x.setRule(2);
        Check.is(x.finishOf(1), 2);
        Check.is(x.finishIfAdded(0, 1, 0), 1);
        x.expedite(0, true);
        Check.is(x.finishOf(1), 22);
        Check.is(x.finishIfAdded(0, 1, 0), 21);
        Check.is(x.tardinessAhead(3), 17);
        x.stop(0, 7);
        Check.is(x.finishOf(1), 29);
        Check.is(x.finishIfAdded(0, 1, 0), 28);
        Check.is(x.tardinessAhead(3), 26);
        // order 0 is black from the first tick on, order 1 green and shorter
        String hurry = "stations 1 0;buffers 30 10;rope 500;rule 3;product 0 1;order 0 20 12;order 0 10 35";
        DrumRope without = Check.shop(hurry);
        Check.is(without.finishOf(0), 30);
        Check.is(without.tardinessAhead(3), 18);
        Check.is(without.bestExpedite(), 0);
        DrumRope with = Check.shop(hurry + ";auto 1");
        Check.is(with.finishOf(0), 20);
        Check.is(with.finishOf(1), 30);
        Check.is(with.tardinessAhead(3), 8);
        Check.is(with.bestExpedite(), DrumRope.NONE);
    }

    /** Section 6: "they are not limited by time 30000". */
    private static void notLimitedByTime() {
        DrumRope x = Check.shop("stations 1 0;buffers 500 5;rope 1000;product 0 1");
        for (int i = 0; i < 60; i++) {
            x.advance(500);
        }
        Check.is(x.addOrder(0, 20, 30000), 0);
        Check.is(x.addOrder(0, 2, 30000), 1);
        Check.is(x.finishOf(0), 30020);
        Check.is(x.finishOf(1), 30022);
        Check.is(x.finishIfAdded(0, 3, 30000), 30025);
        Check.is(x.tardinessAhead(0), 42);
        Check.is(x.tardinessAhead(3), 24);
        Check.is(x.bestRule(), 3);
        Check.is(x.bestExpedite(), 1);
        Check.is(x.neededRope(), 100);
        Check.is(x.now(), 30000);
        Check.is(x.advance(1), DrumRope.FULL);
        DrumRope y = Check.shop(drumAndFeeder(10, 1000));
        y.cancel(0);
        y.cancel(1);
        for (int i = 0; i < 60; i++) {
            y.advance(500);
        }
        y.addOrder(0, 25, 30000);
        y.addOrder(1, 25, 30000);
        Check.is(y.neededRope(), 500);
    }

    /** Promise 54: "at most 2000 ticks; orders that are not finished then count as finished at that time". */
    private static void tardinessAtTheHorizon() {
        DrumRope x = Check.shop(ENDLESS);
        Check.is(x.tardinessAhead(0), 1900);
        x.setDue(0, 1999);
        Check.is(x.tardinessAhead(0), 1);
        x.setDue(0, 2000);
        Check.is(x.tardinessAhead(0), 0);
        x.setDue(0, 2001);
        Check.is(x.tardinessAhead(0), 0);
        x.advance(3);
        Check.is(x.tardinessAhead(0), 2);
        // not released for the whole time, as the rope is taken: late all the same
        DrumRope y = Check.shop("stations 1 0;buffers 500 5;rope 1000;product 0 20;order 0 50 0;order 0 50 1;order 0 50 2");
        Check.is(y.finishOf(1), 2000);
        Check.is(y.finishOf(2), DrumRope.NONE);
        Check.is(y.tardinessAhead(0), 1000 + 1999 + 1998);
    }

    /** "of all orders": finished ones, too; and "until all are finished". */
    private static void tardinessOfAll() {
        DrumRope x = Check.shop("stations 1 0;buffers 500 5;product 0 1;order 0 5 0;order 0 5 1;order 0 5 2000;order 0 5 9");
        x.cancel(3);
        Check.is(x.tardinessAhead(0), 14);
        x.advance(5);
        Check.is(x.tardinessAhead(0), 14);
        x.advance(500);
        Check.is(x.tardiness(), 14);
        Check.is(x.tardinessAhead(0), 14);
        x.cancel(2);
        // with none left to finish, no time passes
        Check.is(x.tardinessAhead(3), 14);
        Check.is(new DrumRope().tardinessAhead(0), 0);
    }

    /** Promise 55: "the smallest of several", whatever rule is in force. */
    private static void bestRule() {
        Check.is(new DrumRope().bestRule(), 0);
        String shop = "stations 1 0;buffers 500 5;rope 500;product 0 1;order 0 20 25;order 0 2 5";
        for (int rule = 0; rule <= 3; rule++) {
            DrumRope x = Check.shop(shop + ";rule " + rule);
            Check.is(x.tardinessAhead(0), 17);
            Check.is(x.tardinessAhead(1), 0);
            Check.is(x.tardinessAhead(2), 0);
            Check.is(x.tardinessAhead(3), 0);
            Check.is(x.bestRule(), 1);
            Check.is(x.setRule(rule), rule);
        }
    }

    /** The drum is busy with the first, and the second is under way meanwhile if the rope is long enough. */
    private static String drumAndFeeder(int time, int rope) {
        return "stations 2 1;buffers 500 5;rope " + rope + ";product 1 " + time + ";product 0 10 1 " + time
                + ";order 0 25 0;order 1 25 0";
    }

    /** Promise 56: "the smallest ROPE of 100, 200, 300, ..., 1000". */
    private static void neededRope() {
        // both works together: 100, 150, 200, 250, .. 1000
        int[] due = {100, 200, 200, 300, 300, 400, 400, 500, 500, 600, 600, 700, 700, 800, 800, 900, 900, 1000, 1000};
        for (int time = 2; time <= 20; time++) {
            DrumRope x = Check.shop(drumAndFeeder(time, 1000));
            Check.is(x.neededRope(), due[time - 2], "the rope that is needed for twice " + 25 * time);
            Check.is(x.rope(), 1000);
        }
        Check.is(new DrumRope().neededRope(), 100);
    }

    /** "(as in tardinessAhead, with the present rule)". */
    private static void neededRopeByRule() {
        DrumRope x = Check.shop("stations 2 1;buffers 500 5;rope 1000;product 0 3 1 6;order 0 20 50;order 0 15 0");
        // one behind the other with 200: 135 + 265; by rule 0 it is as late with more, by the others 135 + 205
        int[] sums = {400, 340, 340, 340};
        for (int rule = 0; rule <= 3; rule++) {
            x.setRule(rule);
            Check.is(x.tardinessAhead(rule), sums[rule]);
            Check.is(x.neededRope(), rule == 0 ? 200 : 300);
        }
        x.setRope(200);
        Check.is(x.tardinessAhead(3), 400);
    }

    /** "Values that are smaller than the drum work of an order that is not released are left out." */
    private static void neededRopeLeavesOut() {
        Check.is(Check.shop("stations 1 0;product 0 2;order 0 50 9000").neededRope(), 100);
        DrumRope x = Check.shop("stations 1 0;rope 5000;buffers 10 5;product 0 6;order 0 17 9000");
        Check.is(x.neededRope(), 200);
        Check.is(x.addOrder(0, 50, 9000), 1);
        Check.is(x.neededRope(), 300);
        x.cancel(1);
        Check.is(x.neededRope(), 200);
        x.setDue(0, 0);
        x.advance(1);
        Check.is(x.stateOf(0), 1);
        Check.is(x.neededRope(), 100);
        DrumRope most = Check.shop("stations 1 0;rope 1000;product 0 20;order 0 50 9000;order 0 46 9000");
        Check.is(most.neededRope(), 1000);
        most.cancel(0);
        Check.is(most.neededRope(), 1000);
        DrumRope less = Check.shop("stations 1 0;rope 1000;product 0 20;order 0 45 9000");
        Check.is(less.neededRope(), 900);
    }

    /** "is not greater than with 1000": the present rope does not matter. */
    private static void neededRopeAgainst1000() {
        // two works of 600: with 1000 one waits for the other, as with 600; with 1200 it does not
        DrumRope x = Check.shop("stations 2 1;buffers 500 5;rope 5000;product 1 20;product 0 10 1 20;"
                + "order 0 30 0;order 1 30 0");
        int present = x.tardinessAhead(0);
        Check.is(x.neededRope(), 600);
        Check.is(x.rope(), 5000);
        x.setRope(1000);
        Check.is(x.tardinessAhead(0) > present, true);
        Check.is(x.neededRope(), 600);
        // with a rope of 1001 the second one would be early enough
        DrumRope widest = Check.shop("stations 2 1;buffers 500 5;rope 1001;product 1 20;product 0 20 1 1;"
                + "order 0 50 0;order 1 1 0");
        Check.is(widest.tardinessAhead(0), 2001);
        Check.is(widest.neededRope(), 1000);
        widest.setRope(1000);
        Check.is(widest.tardinessAhead(0), 2021);
        // and a present rope that is too short is no bound
        DrumRope y = Check.shop(drumAndFeeder(10, 250));
        Check.is(y.neededRope(), 500);
        y.setRope(5000);
        Check.is(y.neededRope(), 500);
    }

    /** Promise 62: "the smallest of several"; "NONE if the sum is not smaller with any of them". */
    private static void bestExpedite() {
        DrumRope x = Check.shop("stations 1 0;buffers 500 5;rope 500;product 0 1;order 0 20 25;order 0 3 5;order 0 3 5;"
                + "order 0 1 5");
        Check.is(x.stateOf(3), 0);
        Check.is(x.bestExpedite(), 3);
        x.advance(1);
        // at work, and three that are released and wait: 23, 26, 27, or with order 3 first 21, 24, 27
        Check.is(x.stateOf(3), 1);
        Check.is(x.tardinessAhead(0), 18 + 21 + 22);
        Check.is(x.bestExpedite(), 3);
        x.expedite(3, true);
        Check.is(x.tardinessAhead(0), 16 + 19 + 22);
        // with another one marked besides, the smaller number still goes first
        Check.is(x.bestExpedite(), DrumRope.NONE);
        DrumRope tie = Check.shop("stations 1 0;buffers 500 5;rope 500;product 0 1;order 0 20 25;order 0 3 5;order 0 3 5");
        Check.is(tie.bestExpedite(), 1);
        tie.cancel(1);
        Check.is(tie.bestExpedite(), 2);
        Check.is(new DrumRope().bestExpedite(), DrumRope.NONE);
        // a sum that is the same is not smaller
        DrumRope same = Check.shop("stations 1 0;buffers 500 5;rope 500;product 0 1;order 0 3 0;order 0 3 0");
        Check.is(same.tardinessAhead(0), 9);
        Check.is(same.bestExpedite(), DrumRope.NONE);
    }

    /** "of those that are released or not released, and not marked", "with the present rule". */
    private static void bestExpediteOfThese() {
        String shop = "stations 1 0;buffers 500 5;rope 500;product 0 1;order 0 20 25;order 0 2 5";
        Check.is(Check.shop(shop).bestExpedite(), 1);
        for (int rule = 1; rule <= 3; rule++) {
            Check.is(Check.shop(shop + ";rule " + rule).bestExpedite(), DrumRope.NONE);
        }
        DrumRope marked = Check.shop(shop);
        marked.expedite(0, true);
        // with both marked the rule decides, and nothing is won
        Check.is(marked.bestExpedite(), DrumRope.NONE);
        marked.setRule(2);
        Check.is(marked.bestExpedite(), 1);
        Check.is(marked.expedite(1, false), false);
        Check.is(marked.expedite(0, true), true);
    }

    /** Promise 63: "Returns the time"; "slot: 0 or 1". */
    private static void savesAtAnyTime() {
        DrumRope x = new DrumRope();
        Check.is(x.saveSnapshot(0), 0);
        for (int i = 0; i < 60; i++) {
            x.advance(500);
        }
        Check.is(x.saveSnapshot(1), 30000);
        Check.is(x.restoreSnapshot(0), 0);
        Check.is(x.now(), 0);
        Check.is(x.restoreSnapshot(1), 30000);
        Check.is(x.now(), 30000);
        Check.is(x.advance(1), DrumRope.FULL);
    }

    /** Promise 64: "NONE if nothing was saved there". */
    private static void nothingSaved() {
        DrumRope x = Check.shop(SHOP);
        Check.is(x.restoreSnapshot(0), DrumRope.NONE);
        Check.is(x.saveSnapshot(1), 0);
        Check.is(x.restoreSnapshot(0), DrumRope.NONE);
        Check.is(x.restoreSnapshot(1), 0);
        Check.is(x.restoreSnapshot(0), DrumRope.NONE);
        DrumRope y = Check.shop(SHOP);
        y.saveSnapshot(0);
        Check.is(y.restoreSnapshot(1), DrumRope.NONE);
        Check.is(y.restoreSnapshot(0), 0);
        Check.is(y.orderCount(), 4);
    }

    /** "Replaces everything by a copy of a snapshot, which stays." */
    private static void snapshotStays() {
        DrumRope twin = marked();
        twin.saveSnapshot(0);
        String due = Questions.everything(twin);
        DrumRope x = marked();
        x.saveSnapshot(0);
        for (int i = 0; i < 3; i++) {
            change(x);
            Check.is(x.restoreSnapshot(0), 13);
        }
        Check.is(Questions.everything(x), due, "all behind a restored snapshot");
    }

    private static DrumRope marked() {
        DrumRope x = Check.shop(SHOP);
        x.expedite(2, true);
        x.stop(2, 30);
        x.advance(13);
        return x;
    }

    /** Everything that a call can change, and in between a time in which all goes on. */
    private static void change(DrumRope x) {
        x.cancel(3);
        x.addOrder(1, 2, 100);
        x.setDue(0, 5);
        x.setRule(3);
        x.setRope(80);
        x.expedite(2, false);
        x.expedite(0, true);
        x.stop(1, 70);
        x.advance(20);
        x.stop(2, 0);
        x.advance(200);
        Check.is(Check.load(x, "stations 6 0;buffers 9 9;auto 0;setup 1 7;product 0 9;order 0 5 5;order 0 5 5"), 2);
        x.advance(30);
    }

    /** The two slots, and the shop, are apart from one another. */
    private static void snapshotsAreApart() {
        DrumRope x = Check.shop(SHOP);
        x.advance(10);
        x.saveSnapshot(0);
        String early = Questions.answers(x);
        x.advance(30);
        x.saveSnapshot(1);
        String late = Questions.answers(x);
        x.restoreSnapshot(0);
        Check.is(Questions.answers(x), early);
        x.advance(5);
        x.restoreSnapshot(1);
        Check.is(Questions.answers(x), late);
        // saved again, a slot holds the new one
        x.restoreSnapshot(0);
        Check.is(x.saveSnapshot(1), 10);
        x.advance(9);
        Check.is(x.restoreSnapshot(1), 10);
        Check.is(Questions.answers(x), early);
        Check.is(x.saveSnapshot(0), 10);
        Check.is(x.restoreSnapshot(0), 10);
    }

    /** "Copies everything except the input buffer, the result of the latest load and the snapshots". */
    private static void exceptOfTheSnapshot() {
        DrumRope x = Check.shop("stations 1 0;rope 51");
        Check.type(x, "stations 1 0;rope 5");
        Check.is(x.saveSnapshot(0), 0);
        Check.is(x.appendByte('2'), 20);
        Check.is(x.restoreSnapshot(0), 0);
        Check.is(x.appendByte(' '), 21);
        Check.is(x.rope(), 51);
        Check.is(x.load(), 0);
        Check.is(x.rope(), 52);
        Check.is(Check.load(x, "stations 1 0;rope"), -117);
        x.saveSnapshot(1);
        Check.is(x.restoreSnapshot(0), 0);
        Check.is(x.loadError(), 1);
        Check.is(x.loadStatement(), 1);
        Check.is(x.rope(), 51);
        Check.is(Check.load(x, "stations 1 0"), 0);
        Check.is(x.restoreSnapshot(1), 0);
        Check.is(x.loadError(), 0);
        Check.is(x.loadStatement(), -1);
        Check.is(x.rope(), 52);
        Check.is(x.appendByte('s'), 1);
    }

    /** A snapshot of a large shop over a small one, and the other way round. */
    private static void largerAndSmallerShops() {
        String large = "stations 6 5;buffers 500 5;rope 500;setup 5 9;product 0 1 1 2 2 3 3 4 4 5 5 6"
                + ";product 5 1".repeat(5) + ";order 0 1 0;order 5 2 3".repeat(12);
        DrumRope x = Check.shop(large);
        x.advance(20);
        String before = Questions.answers(x);
        x.saveSnapshot(0);
        Check.is(Check.load(x, "stations 1 0"), 0);
        x.saveSnapshot(1);
        x.restoreSnapshot(0);
        Check.is(Questions.answers(x), before);
        Check.is(x.restoreSnapshot(1), 0);
        Check.is(Questions.answers(x), Questions.answers(new DrumRope()));
        Check.index(() -> x.stateOf(0));
        Check.index(() -> x.stepCount(0));
        Check.index(() -> x.workingOn(1));
    }
}
