/** Promises 42 to 48, 60 and 61: what stations do, how they choose, and what they have done. */
public final class StationTest {
    /** All are released at 0, with the release times -430, -450 and -413. */
    private static final String QUEUE = "stations 1 0;buffers 500 10;rope 5000;product 0 1;product 0 4;"
            + "order 0 10 90;order 1 5 80;order 0 3 100";
    /** Order 0 is planned from 0, order 1 from 20: at 0 black and green. */
    private static final String HURRY = "stations 1 0;buffers 30 10;rope 500;rule 3;product 0 1;"
            + "order 0 20 30;order 0 10 35";

    public static void main(String[] args) {
        workingOn();
        queueLength();
        rules();
        smallestNumber();
        arrivals();
        expedited();
        auto();
        autoOfYellow();
        downUntil();
        busyTicks();
        setups();
        starvedTicks();
        loadOf();
        bottleneck();
        Check.end();
    }

    private static void workingOn() {
        DrumRope x = Check.shop("stations 2 1;buffers 500 5;product 0 2 1 3;order 0 2 0");
        Check.is(x.workingOn(0), -1);
        x.advance(1);
        Check.is(x.workingOn(0), 0);
        Check.is(x.workingOn(1), -1);
        x.advance(3);
        Check.is(x.workingOn(0), -1);
        Check.is(x.workingOn(1), -1);
        x.advance(1);
        Check.is(x.workingOn(1), 0);
        x.stop(1, 9);
        x.advance(5);
        Check.is(x.workingOn(1), 0);
        x.advance(9);
        Check.is(x.workingOn(1), -1);
        Check.index(() -> x.workingOn(2));
        Check.index(() -> x.workingOn(-1));
    }

    private static void queueLength() {
        DrumRope x = Check.shop(QUEUE);
        Check.is(x.queueLength(0), 0);
        x.advance(1);
        Check.is(x.queueLength(0), 2);
        x.advance(10);
        Check.is(x.queueLength(0), 1);
        x.advance(20);
        Check.is(x.queueLength(0), 0);
        Check.index(() -> x.queueLength(1));
        Check.index(() -> x.queueLength(-1));
        DrumRope y = Check.shop(QUEUE);
        y.stop(0, 5);
        y.advance(1);
        Check.is(y.queueLength(0), 3);
        Check.is(y.nextChoice(0), 0);
    }

    private static int choiceBy(DrumRope x, int rule) {
        x.setRule(rule);
        return x.nextChoice(0);
    }

    private static void rules() {
        DrumRope x = Check.shop(QUEUE);
        Check.is(x.nextChoice(0), -1);
        x.advance(1);
        Check.is(x.penetration(1), 902);
        Check.is(x.penetration(2), 828);
        Check.is(choiceBy(x, 0), 1);
        Check.is(choiceBy(x, 1), 1);
        Check.is(choiceBy(x, 2), 1);
        Check.is(choiceBy(x, 3), 2);
        x.setDue(1, 300);
        Check.is(choiceBy(x, 2), 2);
        Check.is(choiceBy(x, 1), 1);
        // planned from 10, when the drum is free: the release time -490
        Check.is(x.addOrder(0, 2, 0), 3);
        x.advance(1);
        Check.is(x.penetration(3), 984);
        Check.is(choiceBy(x, 0), 1);
        Check.is(choiceBy(x, 1), 3);
        Check.is(choiceBy(x, 2), 3);
        Check.is(choiceBy(x, 3), 3);
        x.setRule(1);
        x.advance(9);
        Check.is(x.workingOn(0), 3);
        Check.index(() -> x.nextChoice(1));
        Check.index(() -> x.nextChoice(-1));
    }

    private static void smallestNumber() {
        DrumRope x = Check.shop("stations 1 0;buffers 500 10;rope 5000;product 0 1;product 0 2;"
                + "order 0 9 90;order 1 4 80;order 0 8 80;order 1 4 80");
        x.advance(1);
        Check.is(choiceBy(x, 0), 1);
        Check.is(choiceBy(x, 2), 1);
        Check.is(choiceBy(x, 3), 1);
        // release times: each 8 after the one before
        Check.is(choiceBy(x, 1), 1);
        DrumRope tie = Check.shop("stations 1 0;buffers 500 500;product 0 1;order 0 9 0;order 0 1 5;order 0 1 4");
        tie.advance(1);
        Check.is(tie.penetration(2), 984);
        Check.is(tie.penetration(1), 982);
        tie.setDue(1, 4);
        Check.is(choiceBy(tie, 2), 1);
        Check.is(choiceBy(tie, 1), 2);
    }

    /** Order 1 is at the drum before order 0, which is longer on its way. */
    private static void arrivals() {
        DrumRope x = Check.shop("stations 3 2;buffers 500 10;rope 500;product 0 9 2 1;product 1 3 2 1;"
                + "order 0 1 50;order 1 1 90");
        x.stop(2, 20);
        x.advance(12);
        Check.is(x.queueLength(2), 2);
        Check.is(x.nextChoice(2), 1);
        Check.is(choiceOfDrumByDue(x), 0);
    }

    private static int choiceOfDrumByDue(DrumRope x) {
        x.setRule(2);
        return x.nextChoice(2);
    }

    private static void expedited() {
        DrumRope x = Check.shop(QUEUE);
        x.advance(1);
        x.expedite(2, true);
        Check.is(choiceBy(x, 0), 2);
        Check.is(choiceBy(x, 1), 2);
        Check.is(choiceBy(x, 2), 2);
        x.expedite(1, true);
        Check.is(choiceBy(x, 2), 1);
        Check.is(choiceBy(x, 3), 2);
        x.expedite(2, false);
        Check.is(choiceBy(x, 3), 1);
        // an expedited order that does not wait there does not count
        x.expedite(1, false);
        x.expedite(0, true);
        Check.is(choiceBy(x, 3), 2);
        x.advance(10);
        Check.is(x.workingOn(0), 2);
    }

    private static void auto() {
        DrumRope without = Check.shop(HURRY);
        without.advance(1);
        Check.is(without.workingOn(0), 1);
        DrumRope with = Check.shop(HURRY + ";auto 1");
        with.advance(1);
        Check.is(with.workingOn(0), 0);
        with.saveSnapshot(0);
        // an expedited order and a red one are of one rank
        DrumRope both = Check.shop(HURRY + ";auto 1");
        both.expedite(1, true);
        both.advance(1);
        Check.is(both.workingOn(0), 1);
    }

    /** 666 of 1000 is yellow, 700 is red. */
    private static void autoOfYellow() {
        DrumRope x = Check.shop("stations 1 0;buffers 30 10;rope 500;rule 3;auto 1;product 0 1;"
                + "order 0 9 40;order 0 1 70");
        // planned 21 to 30, and 59 to 60: released at 0 with -9, and at 29
        x.stop(0, 500);
        x.advance(30);
        Check.is(x.releasedAt(1), 29);
        Check.is(x.penetration(0), 1300);
        Check.is(x.nextChoice(0), 0);
        DrumRope y = Check.shop("stations 2 1;buffers 30 30;rope 500;rule 3;auto 1;product 0 1 1 1;"
                + "order 0 9 90;order 0 1 100");
        // planned 51 to 60, and 69 to 70: released at 21 and 39
        y.stop(0, 500);
        y.advance(41);
        Check.is(y.penetration(0), 666);
        Check.is(y.nextChoice(0), 1);
        y.advance(1);
        Check.is(y.penetration(0), 700);
        Check.is(y.nextChoice(0), 0);
    }

    private static void downUntil() {
        DrumRope x = new DrumRope();
        Check.is(x.downUntil(0), -1);
        x.stop(0, 2);
        Check.is(x.downUntil(0), 2);
        x.advance(1);
        Check.is(x.downUntil(0), 2);
        x.advance(1);
        Check.is(x.downUntil(0), -1);
        Check.index(() -> x.downUntil(1));
        Check.index(() -> x.downUntil(-1));
    }

    private static void busyTicks() {
        DrumRope x = Check.shop("stations 2 1;buffers 500 5;setup 1 2;product 0 2 1 3;order 0 2 0");
        x.advance(3);
        Check.is(x.busyTicks(0), 3);
        Check.is(x.busyTicks(1), 0);
        x.stop(0, 4);
        x.advance(4);
        Check.is(x.busyTicks(0), 3);
        x.advance(50);
        Check.is(x.busyTicks(0), 4);
        Check.is(x.busyTicks(1), 8);
        Check.index(() -> x.busyTicks(2));
        Check.index(() -> x.busyTicks(-1));
    }

    private static void setups() {
        DrumRope x = Check.shop("stations 2 0;buffers 500 5;rope 500;setup 0 4;product 0 1;product 0 1;"
                + "order 0 2 10;order 0 2 20;order 1 2 30;order 0 2 40");
        Check.is(x.setups(0), 0);
        x.advance(1);
        Check.is(x.setups(0), 1);
        Check.is(x.remaining(0), 5);
        x.advance(6);
        Check.is(x.setups(0), 1);
        Check.is(x.remaining(1), 1);
        x.advance(2);
        Check.is(x.setups(0), 2);
        x.advance(30);
        Check.is(x.setups(0), 3);
        Check.is(x.setups(1), 0);
        Check.is(x.finishedAt(0), 6);
        Check.is(x.finishedAt(1), 8);
        Check.is(x.finishedAt(2), 14);
        Check.is(x.finishedAt(3), 20);
        DrumRope free = Check.shop("stations 1 0;buffers 500 5;product 0 1;product 0 1;order 0 2 10;order 1 2 20");
        free.advance(9);
        Check.is(free.setups(0), 2);
        Check.is(free.finishedAt(1), 4);
        Check.index(() -> free.setups(1));
        Check.index(() -> free.setups(-1));
    }

    private static void starvedTicks() {
        DrumRope x = Check.shop("stations 2 1;buffers 10 8;rope 30;product 0 1 1 2 0 5;order 0 5 60;order 0 5 900");
        // planned from 42, released at 32, at the drum from 37 to 47
        x.advance(32);
        Check.is(x.starvedTicks(), 32);
        x.advance(5);
        Check.is(x.starvedTicks(), 37);
        x.cancel(1);
        x.advance(10);
        Check.is(x.starvedTicks(), 37);
        Check.is(x.stepOf(0), 2);
        x.advance(100);
        Check.is(x.starvedTicks(), 37);
        x.addOrder(0, 1, 1000);
        x.stop(1, 5);
        x.advance(7);
        Check.is(x.starvedTicks(), 39);
        DrumRope one = Check.shop("stations 1 0;buffers 10 10;product 0 1;order 0 5 90");
        one.advance(9);
        Check.is(one.starvedTicks(), 9);
        Check.is(new DrumRope().starvedTicks(), 0);
    }

    private static void loadOf() {
        DrumRope x = Check.shop("stations 3 1;buffers 10 8;rope 100;setup 0 9;product 0 1 1 2 0 3;product 1 4;"
                + "order 0 5 60;order 1 5 900;order 1 3 800");
        Check.is(x.loadOf(0), 20);
        Check.is(x.loadOf(1), 42);
        Check.is(x.loadOf(2), 0);
        x.cancel(2);
        Check.is(x.loadOf(1), 30);
        // released at 32; at station 0 with its setup for 14 ticks
        x.advance(34);
        Check.is(x.remaining(0), 12);
        Check.is(x.loadOf(0), 27);
        Check.is(x.loadOf(1), 30);
        x.advance(12);
        Check.is(x.stepOf(0), 1);
        Check.is(x.loadOf(0), 15);
        Check.is(x.loadOf(1), 30);
        x.advance(1);
        Check.is(x.loadOf(1), 29);
        x.advance(100);
        Check.is(x.stateOf(0), 2);
        Check.is(x.loadOf(0), 0);
        Check.is(x.loadOf(1), 20);
        Check.index(() -> x.loadOf(3));
        Check.index(() -> x.loadOf(-1));
    }

    private static void bottleneck() {
        DrumRope x = Check.shop("stations 3 0;product 0 1 1 3 2 3;product 0 4;order 0 2 900");
        Check.is(x.bottleneck(), 1);
        x.addOrder(1, 1, 900);
        Check.is(x.bottleneck(), 0);
        x.cancel(0);
        x.cancel(1);
        Check.is(x.bottleneck(), 0);
    }
}
