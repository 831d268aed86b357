/** Promises 52 to 56 and 62: the predictions. */
public final class AheadTest {
    private static final String TWO = "stations 2 1;buffers 10 8;rope 30;product 0 1 1 2;order 0 5 60;order 0 5 40";
    /** By rule 0 order 1 waits until 20 and is 17 late; by the others none is late. */
    private static final String SHORT_ONE_WAITS = "stations 1 0;buffers 500 5;rope 500;product 0 1;"
            + "order 0 20 25;order 0 2 5";
    /** A work of 6000 ticks. */
    private static final String ENDLESS = "stations 2 0;buffers 500 5;rope 1000;"
            + "product 0 20 1 20 1 20 1 20 1 20 1 20;order 0 50 100";
    /** 100 ticks before the drum, 100 at it; with a rope of 100 one waits for the other. */
    private static final String SHORT_ROPE = "stations 2 1;buffers 500 5;rope 100;product 0 10 1 10;"
            + "order 0 10 0;order 0 10 0";

    public static void main(String[] args) {
        finishIfAdded();
        finishIfAddedIsFull();
        finishOf();
        beyondTheEndOfTime();
        tardinessAhead();
        tardinessWithinTheHorizon();
        tardinessOfAllOrders();
        bestRule();
        neededRope();
        bestExpedite();
        Check.end();
    }

    private static void finishIfAdded() {
        DrumRope x = Check.shop(TWO);
        String before = Questions.answers(x);
        Check.is(x.finishIfAdded(0, 5, 20), 15);
        Check.is(x.finishIfAdded(0, 5, 2013), 2000);
        Check.is(x.finishIfAdded(0, 5, 2014), DrumRope.NONE);
        Check.is(x.finishIfAdded(0, 5, 30000), DrumRope.NONE);
        Check.is(x.finishIfAdded(0, 16, 20), DrumRope.TOO_LARGE);
        Check.is(x.finishIfAdded(0, 15, 20), 45);
        Check.index(() -> x.finishIfAdded(1, 0, -1));
        Check.index(() -> x.finishIfAdded(-1, 1, 1));
        Check.argument(() -> x.finishIfAdded(0, 0, 1));
        Check.argument(() -> x.finishIfAdded(0, 51, 1));
        Check.argument(() -> x.finishIfAdded(0, 1, -1));
        Check.argument(() -> x.finishIfAdded(0, 1, 30001));
        Check.is(Questions.answers(x), before);
    }

    private static void finishIfAddedIsFull() {
        DrumRope x = Check.shop("stations 1 0;buffers 500 5;product 0 20" + ";order 0 1 9".repeat(23));
        // released among the first five, the last of them by its number
        Check.is(x.finishIfAdded(0, 1, 0), 100);
        Check.is(x.finishIfAdded(0, 6, 0), DrumRope.TOO_LARGE);
        x.addOrder(0, 1, 9);
        Check.is(x.finishIfAdded(0, 1, 0), DrumRope.FULL);
        Check.is(x.finishIfAdded(0, 6, 0), DrumRope.FULL);
        Check.argument(() -> x.finishIfAdded(0, 51, 0));
    }

    private static void finishOf() {
        DrumRope x = Check.shop(TWO + ";order 0 1 900;order 0 1 3000");
        Check.is(x.finishOf(0), 47);
        Check.is(x.finishOf(1), 27);
        Check.is(x.finishOf(2), 883);
        Check.is(x.finishOf(3), DrumRope.NONE);
        x.cancel(2);
        Check.is(x.finishOf(2), DrumRope.NONE);
        x.advance(20);
        Check.is(x.finishOf(1), 27);
        x.stop(1, 10);
        Check.is(x.finishOf(1), 37);
        x.advance(480);
        x.advance(500);
        Check.is(x.finishOf(1), 37);
        Check.is(x.finishOf(3), 2983);
        x.advance(500);
        Check.is(x.finishOf(3), 2983);
        Check.index(() -> x.finishOf(4));
        Check.index(() -> x.finishOf(-1));
    }

    private static void beyondTheEndOfTime() {
        DrumRope x = Check.shop("stations 1 0;buffers 500 5;product 0 1");
        for (int i = 0; i < 60; i++) {
            x.advance(500);
        }
        Check.is(x.finishIfAdded(0, 5, 30000), 30005);
        Check.is(x.addOrder(0, 9, 30000), 0);
        Check.is(x.finishOf(0), 30009);
        Check.is(x.tardinessAhead(0), 9);
        Check.is(x.quote(0, 1), 30506);
        Check.is(x.now(), 30000);
    }

    private static void tardinessAhead() {
        DrumRope x = Check.shop(SHORT_ONE_WAITS);
        String before = Questions.answers(x);
        Check.is(x.tardinessAhead(0), 17);
        Check.is(x.tardinessAhead(1), 0);
        Check.is(x.tardinessAhead(2), 0);
        Check.is(x.tardinessAhead(3), 0);
        Check.argument(() -> x.tardinessAhead(4));
        Check.argument(() -> x.tardinessAhead(-1));
        Check.is(x.setRule(0), 0);
        Check.is(Questions.answers(x), before);
        Check.is(new DrumRope().tardinessAhead(3), 0);
    }

    private static void tardinessWithinTheHorizon() {
        DrumRope x = Check.shop(ENDLESS);
        Check.is(x.finishOf(0), DrumRope.NONE);
        Check.is(x.tardinessAhead(0), 1900);
        x.advance(500);
        Check.is(x.tardinessAhead(2), 2400);
        DrumRope far = Check.shop("stations 1 0;product 0 1;order 0 5 2000;order 0 1 2001");
        far.stop(0, 500);
        Check.is(far.tardinessAhead(0), 0);
        DrumRope cancelled = Check.shop(ENDLESS);
        cancelled.cancel(0);
        Check.is(cancelled.tardinessAhead(0), 0);
    }

    private static void tardinessOfAllOrders() {
        DrumRope x = Check.shop(SHORT_ONE_WAITS);
        x.advance(30);
        Check.is(x.tardiness(), 17);
        Check.is(x.tardinessAhead(2), 17);
        x.addOrder(0, 5, 0);
        Check.is(x.tardinessAhead(2), 52);
    }

    private static void bestRule() {
        Check.is(Check.shop(SHORT_ONE_WAITS).bestRule(), 1);
        // by rule 1 and 2 the long one with the earlier due time goes first, by 3 the short one
        DrumRope x = Check.shop("stations 1 0;buffers 500 5;rope 500;product 0 1;order 0 40 0;order 0 2 1");
        Check.is(x.tardinessAhead(0), 81);
        Check.is(x.tardinessAhead(1), 81);
        Check.is(x.tardinessAhead(2), 81);
        Check.is(x.tardinessAhead(3), 43);
        Check.is(x.bestRule(), 3);
        Check.is(x.setRule(1), 0);
        Check.is(x.bestRule(), 3);
        Check.is(x.setRule(1), 1);
        Check.is(Check.shop(TWO).bestRule(), 0);
    }

    private static void neededRope() {
        DrumRope x = Check.shop(SHORT_ROPE);
        Check.is(x.tardinessAhead(0), 600);
        Check.is(x.neededRope(), 200);
        Check.is(x.rope(), 100);
        x.setRope(200);
        Check.is(x.tardinessAhead(0), 500);
        Check.is(x.neededRope(), 200);
        Check.is(Check.shop(TWO).neededRope(), 100);
        DrumRope one = Check.shop("stations 1 0;buffers 10 10;rope 350;product 0 7;order 0 50 500;order 0 1 30000");
        Check.is(one.neededRope(), 400);
        one.advance(131);
        Check.is(one.stateOf(0), 1);
        Check.is(one.neededRope(), 100);
        DrumRope edge = Check.shop("stations 1 0;rope 400;product 0 8;order 0 50 9000");
        Check.is(edge.neededRope(), 400);
        DrumRope most = Check.shop("stations 1 0;rope 1000;product 0 20;order 0 50 9000");
        Check.is(most.neededRope(), 1000);
        most.cancel(0);
        Check.is(most.neededRope(), 100);
        Check.is(new DrumRope().neededRope(), 100);
    }

    private static void bestExpedite() {
        DrumRope x = Check.shop(SHORT_ONE_WAITS);
        String before = Questions.answers(x);
        Check.is(x.bestExpedite(), 1);
        Check.is(Questions.answers(x), before);
        Check.is(x.expedite(1, false), false);
        x.setRule(2);
        Check.is(x.bestExpedite(), DrumRope.NONE);
        x.setRule(0);
        x.expedite(1, true);
        Check.is(x.bestExpedite(), DrumRope.NONE);
        x.expedite(1, false);
        x.advance(1);
        // order 0 is worked on: nothing helps
        Check.is(x.bestExpedite(), DrumRope.NONE);
        DrumRope y = Check.shop("stations 1 0;buffers 500 5;rope 500;product 0 1;order 0 20 25;"
                + "order 0 3 5;order 0 3 5;order 0 1 5");
        // 20, 23, 26, 27 are 0 + 18 + 21 + 22 late; with 1 first it is 43, with 3 first 41
        Check.is(y.tardinessAhead(0), 61);
        Check.is(y.bestExpedite(), 3);
        y.setDue(3, 30);
        // with 1 or 2 first 21, with 3 first 41
        Check.is(y.bestExpedite(), 1);
        // an order numbered 0 can be the one
        DrumRope z = Check.shop("stations 1 0;buffers 500 5;rope 500;rule 2;product 0 1;order 0 1 9;order 0 20 8");
        Check.is(z.bestExpedite(), 0);
        y.cancel(3);
        Check.is(y.bestExpedite(), 1);
        Check.is(new DrumRope().bestExpedite(), DrumRope.NONE);
    }
}
