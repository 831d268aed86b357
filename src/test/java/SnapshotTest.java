/** Promises 63 and 64: snapshots. */
public final class SnapshotTest {
    private static final String SHOP = "stations 3 1;buffers 30 20;rope 60;rule 1;auto 1;setup 0 3;setup 2 1;"
            + "product 0 2 1 3 2 1;product 2 4 1 2;order 0 4 90;order 1 3 40;order 0 5 70;order 1 9 300";

    public static void main(String[] args) {
        nothingSaved();
        everythingComesBack();
        afterAnotherLoad();
        goesOnAlike();
        arrivalsComeBack();
        Check.end();
    }

    private static void nothingSaved() {
        DrumRope x = Check.shop(SHOP);
        x.advance(7);
        String before = Questions.answers(x);
        Check.is(x.restoreSnapshot(0), DrumRope.NONE);
        Check.is(x.restoreSnapshot(1), DrumRope.NONE);
        for (int bad : new int[] {-1, 2, Integer.MAX_VALUE, Integer.MIN_VALUE}) {
            Check.argument(() -> x.saveSnapshot(bad));
            Check.argument(() -> x.restoreSnapshot(bad));
        }
        Check.is(Questions.answers(x), before);
        Check.is(x.saveSnapshot(1), 7);
        Check.is(x.restoreSnapshot(0), DrumRope.NONE);
        Check.is(x.restoreSnapshot(1), 7);
    }

    private static void everythingComesBack() {
        DrumRope x = Check.shop(SHOP);
        x.stop(2, 12);
        x.advance(8);
        String early = Questions.answers(x);
        Check.is(x.saveSnapshot(0), 8);
        x.advance(30);
        x.expedite(3, true);
        x.stop(0, 9);
        String late = Questions.answers(x);
        Check.is(x.saveSnapshot(1), 38);
        x.cancel(3);
        x.addOrder(1, 2, 100);
        x.setDue(0, 5);
        x.setRule(3);
        x.setRope(80);
        x.expedite(3, false);
        x.stop(1, 70);
        x.advance(200);
        Check.is(x.restoreSnapshot(0), 8);
        Check.is(Questions.answers(x), early);
        Check.is(x.setRule(1), 1);
        Check.is(x.restoreSnapshot(1), 38);
        Check.is(Questions.answers(x), late);
        Check.is(x.expedite(3, false), true);
        x.advance(50);
        Check.is(x.restoreSnapshot(0), 8);
        Check.is(Questions.answers(x), early);
        Check.is(x.restoreSnapshot(1), 38);
        Check.is(Questions.answers(x), late);
        x.advance(3);
        Check.is(x.saveSnapshot(1), 41);
        Check.is(x.restoreSnapshot(1), 41);
    }

    private static void afterAnotherLoad() {
        DrumRope x = Check.shop(SHOP);
        x.advance(25);
        String before = Questions.answers(x);
        x.saveSnapshot(0);
        Check.is(Check.load(x, "stations 6 5;product 5 1 4 2 3 3;order 0 9 9;"), -145);
        Check.is(Check.load(x, "stations 6 5;product 5 1 4 2 3 3;order 0 9 9"), 1);
        x.advance(9);
        Check.type(x, "st");
        Check.is(x.restoreSnapshot(0), 25);
        Check.is(Questions.answers(x), before);
        // the input buffer and the result of the latest load are not of the snapshot
        Check.is(x.loadError(), 0);
        Check.is(x.appendByte('a'), 3);
        Check.is(x.load(), -100);
        Check.is(x.restoreSnapshot(0), 25);
        Check.is(x.loadError(), 1);
        Check.is(x.loadStatement(), 0);
    }

    private static void arrivalsComeBack() {
        DrumRope x = Check.shop("stations 3 2;buffers 500 10;rope 500;product 0 9 2 1;product 1 3 2 1;"
                + "order 0 1 50;order 1 1 90");
        x.stop(2, 20);
        x.advance(12);
        Check.is(x.nextChoice(2), 1);
        Check.is(x.releaseTime(0), -461);
        x.saveSnapshot(0);
        Check.is(Check.load(x, "stations 3 2;buffers 500 10;rope 500;product 0 3 2 1;product 1 9 2 1;"
                + "order 0 1 80;order 1 1 70"), 2);
        x.stop(2, 20);
        x.advance(12);
        Check.is(x.nextChoice(2), 0);
        x.restoreSnapshot(0);
        Check.is(x.nextChoice(2), 1);
        Check.is(x.releaseTime(0), -461);
        Check.is(x.penetration(0), 946);
    }

    private static void goesOnAlike() {
        DrumRope x = Check.shop(SHOP);
        x.advance(13);
        x.saveSnapshot(0);
        x.advance(100);
        String once = Questions.answers(x);
        x.restoreSnapshot(0);
        for (int i = 0; i < 100; i++) {
            x.advance(1);
        }
        Check.is(Questions.answers(x), once);
    }
}
