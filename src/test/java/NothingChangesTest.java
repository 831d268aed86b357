/** Section 6: questions, and calls that throw or answer an error, change nothing. */
public final class NothingChangesTest {
    private static final String SHOP = "stations 3 1;buffers 30 20;rope 60;rule 1;setup 0 3;"
            + "product 0 2 1 3 2 1;product 2 4 1 2;order 0 4 90;order 1 3 40;order 0 5 70;order 1 9 300;order 0 1 500";

    public static void main(String[] args) {
        DrumRope x = Check.shop(SHOP);
        x.cancel(4);
        x.stop(2, 12);
        x.advance(45);
        x.stop(0, 9);
        Check.is(x.stateOf(0), 1);
        Check.is(x.stateOf(1), 2);
        Check.is(x.stateOf(3), 0);
        String before = Questions.answers(x);
        Check.is(Questions.answers(x), before);
        errors(x);
        Check.is(Questions.answers(x), before);
        exceptions(x);
        Check.is(Questions.answers(x), before);
        fullShop();
        Check.end();
    }

    private static void errors(DrumRope x) {
        Check.is(x.addOrder(0, 50, 90), DrumRope.TOO_LARGE);
        Check.is(x.cancel(0), DrumRope.WRONG_STATE);
        Check.is(x.cancel(1), DrumRope.WRONG_STATE);
        Check.is(x.cancel(4), DrumRope.WRONG_STATE);
        Check.is(x.setDue(1, 5), DrumRope.WRONG_STATE);
        Check.is(x.setDue(4, 5), DrumRope.WRONG_STATE);
        Check.is(x.setRope(17), DrumRope.TOO_LARGE);
        Check.is(x.restoreSnapshot(0), DrumRope.NONE);
        Check.is(x.quote(0, 50), DrumRope.TOO_LARGE);
        Check.is(x.finishIfAdded(0, 50, 3), DrumRope.TOO_LARGE);
        Check.is(x.load(), -100);
    }

    private static void exceptions(DrumRope x) {
        Check.argument(() -> x.advance(0));
        Check.argument(() -> x.advance(501));
        Check.index(() -> x.addOrder(2, 1, 1));
        Check.argument(() -> x.addOrder(1, 1, 30001));
        Check.index(() -> x.cancel(5));
        Check.argument(() -> x.setDue(0, 30001));
        Check.index(() -> x.expedite(5, true));
        Check.argument(() -> x.setRule(4));
        Check.argument(() -> x.setRope(5001));
        Check.index(() -> x.stop(3, 5));
        Check.argument(() -> x.stop(0, 501));
        Check.argument(() -> x.saveSnapshot(2));
        Check.argument(() -> x.restoreSnapshot(2));
        Check.is(x.restoreSnapshot(0), DrumRope.NONE);
        Check.is(x.restoreSnapshot(1), DrumRope.NONE);
    }

    private static void fullShop() {
        DrumRope x = Check.shop("stations 1 0;product 0 20" + ";order 0 1 9".repeat(24));
        String before = Questions.answers(x);
        Check.is(x.addOrder(0, 1, 9), DrumRope.FULL);
        Check.is(x.finishIfAdded(0, 1, 9), DrumRope.FULL);
        Check.is(Questions.answers(x), before);
    }
}
