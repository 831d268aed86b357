/**
 * Sections 4 and 5, and promises 37 to 48 and 57, at their boundaries; above each test stands the
 * sentence that it is for.
 */
public final class TickEdgeTest {
    /** All wait at 0 from the first tick on; released with -430, -450 and -413. */
    private static final String QUEUE = "stations 1 0;buffers 500 10;rope 5000;product 0 1;product 0 4;"
            + "order 0 10 90;order 1 5 80;order 0 3 100";

    public static void main(String[] args) {
        releasedAndBegunAtOnce();
        arrivesWhenReleased();
        isNotDown();
        stoppedWhileItWorks();
        setupOfAnotherProduct();
        setupOfEachStation();
        starvedTicks();
        notStarved();
        oneTickOfWork();
        nextStepIsNotBegunAtOnce();
        arrivesInTheSameTick();
        arrivesAtTheSameStationAgain();
        expeditedOnes();
        redAndBlackOnesWithAuto();
        ruleByArrival();
        ruleByPenetration();
        ruleByDueTime();
        ruleByWorkWithoutSetup();
        smallestNumberOfSeveral();
        zonesOfTheBuffer();
        zonesOfTheShipping();
        atLeastZero();
        fromTheDrumOn();
        noZone();
        inZone();
        seenOnce();
        countedForItsPresentStation();
        worstStation();
        queueAndChoice();
        downUntil();
        busyTicks();
        Check.end();
    }

    /** Tick (1) before (2): "it is at its first step then and arrives there at the present time". */
    private static void releasedAndBegunAtOnce() {
        DrumRope x = Check.shop("stations 1 0;buffers 10 10;product 0 1;order 0 1 26");
        x.advance(5);
        Check.is(x.stateOf(0), 0);
        Check.is(x.stepOf(0), -1);
        Check.is(x.advance(1), 1);
        Check.is(x.releasedAt(0), 5);
        Check.is(x.plannedStart(0), 5);
        Check.is(x.finishedAt(0), 6);
    }

    /** At the same time as one that comes from another station, the smaller number is first; later, it is not. */
    private static void arrivesWhenReleased() {
        for (int due = 23; due <= 25; due++) {
            DrumRope x = Check.shop("stations 3 2;buffers 10 10;product 0 3 1 5 2 1;product 1 5 2 1;order 1 1 " + due
                    + ";order 0 1 10");
            x.stop(1, 50);
            x.advance(6);
            // order 1 comes to station 1 at 3
            Check.is(x.queueLength(1), 2);
            Check.is(x.releasedAt(0), due - 21);
            Check.is(x.nextChoice(1), due <= 24 ? 0 : 1);
        }
    }

    /** "is not down (the present time is less than the time until which it is down)". */
    private static void isNotDown() {
        for (int ticks = 0; ticks <= 3; ticks++) {
            DrumRope x = Check.shop("stations 1 0;buffers 500 10;product 0 1;order 0 9 0");
            Check.is(x.stop(0, ticks), ticks);
            x.advance(2);
            Check.is(x.isWorkedOn(0), ticks <= 1);
            Check.is(x.remaining(0), ticks == 0 ? 7 : ticks == 1 ? 8 : 0);
            Check.is(x.releasedAt(0), 0);
            x.advance(2);
            Check.is(x.remaining(0), 5 + ticks);
            Check.is(x.plannedStart(0), ticks);
        }
    }

    /** "Each station that works on an order and was not down at the beginning of the tick does one tick of work." */
    private static void stoppedWhileItWorks() {
        DrumRope x = Check.shop("stations 1 0;buffers 500 10;product 0 1;order 0 9 0;order 0 1 0");
        x.advance(3);
        x.stop(0, 1);
        x.advance(1);
        Check.is(x.remaining(0), 6);
        Check.is(x.workingOn(0), 0);
        x.advance(1);
        Check.is(x.remaining(0), 5);
        // it keeps its order, whoever waits
        x.expedite(1, true);
        x.stop(0, 2);
        x.advance(2);
        Check.is(x.workingOn(0), 0);
        x.stop(0, 500);
        x.stop(0, 0);
        x.advance(5);
        Check.is(x.finishedAt(0), 12);
    }

    /** "in addition the setup .. if the product is not that of the order on which it worked last (also for the first)". */
    private static void setupOfAnotherProduct() {
        DrumRope x = Check.shop("stations 1 0;buffers 500 10;rope 500;setup 0 50;product 0 1;product 0 1;"
                + "order 0 1 10;order 0 1 20;order 1 1 30;order 1 1 40;order 0 1 50");
        int[] finished = {51, 52, 103, 104, 155};
        int[] setups = {1, 1, 2, 2, 3};
        for (int i = 0; i < 5; i++) {
            Check.is(x.advance(finished[i] - x.now()), 1);
            Check.is(x.finishedAt(i), finished[i]);
            Check.is(x.setups(0), setups[i]);
        }
        // the last product is remembered, however long ago
        x.addOrder(0, 1, 0);
        x.advance(1);
        Check.is(x.finishedAt(5), 156);
        Check.is(x.setups(0), 3);
    }

    /** "the setup of the station", and promise 47: "its first step included, also if its setup is 0". */
    private static void setupOfEachStation() {
        DrumRope x = Check.shop("stations 3 1;buffers 500 10;setup 2 5;product 0 1 1 1 2 1;order 0 1 0");
        x.advance(50);
        Check.is(x.finishedAt(0), 8);
        for (int s = 0; s < 3; s++) {
            Check.is(x.setups(s), 1);
            Check.is(x.busyTicks(s), s == 2 ? 6 : 1);
        }
        // a station to which an order comes twice needs one setup
        DrumRope twice = Check.shop("stations 2 1;buffers 500 10;setup 0 5;product 0 1 1 1 0 1;order 0 1 0");
        twice.advance(50);
        Check.is(twice.finishedAt(0), 8);
        Check.is(twice.setups(0), 1);
    }

    /** Tick (3): "If the drum is not down and works on no order, although there is an order ..". */
    private static void starvedTicks() {
        DrumRope x = Check.shop("stations 2 1;buffers 10 10;product 0 3 1 1 0 9;order 0 1 100");
        // planned from 89, released at 79, at the drum at 82
        x.advance(79);
        Check.is(x.starvedTicks(), 79);
        x.stop(1, 1);
        x.advance(1);
        Check.is(x.starvedTicks(), 79);
        x.advance(2);
        Check.is(x.starvedTicks(), 81);
        // it begins in this tick, and in the next ones the order has passed it
        x.advance(1);
        Check.is(x.stepOf(0), 2);
        Check.is(x.starvedTicks(), 81);
        x.advance(5);
        Check.is(x.stateOf(0), 1);
        Check.is(x.starvedTicks(), 81);
        x.addOrder(0, 1, 30000);
        x.advance(1);
        Check.is(x.starvedTicks(), 82);
        x.cancel(1);
        x.advance(1);
        Check.is(x.starvedTicks(), 82);
    }

    /** It works, or it is down, or there is nothing to do. */
    private static void notStarved() {
        DrumRope none = new DrumRope();
        none.advance(500);
        Check.is(none.starvedTicks(), 0);
        DrumRope works = Check.shop("stations 1 0;buffers 500 10;product 0 5;order 0 20 0;order 0 1 30000");
        works.advance(100);
        Check.is(works.starvedTicks(), 0);
        works.advance(1);
        Check.is(works.starvedTicks(), 1);
        DrumRope down = Check.shop("stations 1 0;buffers 500 10;product 0 5;order 0 20 0");
        down.stop(0, 30);
        down.advance(30);
        Check.is(down.queueLength(0), 1);
        Check.is(down.starvedTicks(), 0);
        down.advance(10);
        down.stop(0, 30);
        down.advance(30);
        Check.is(down.starvedTicks(), 0);
    }

    /** "if its step has no work left, it is finished": with one tick left it is not. */
    private static void oneTickOfWork() {
        DrumRope x = Check.shop("stations 1 0;buffers 500 10;product 0 20;rope 5000;order 0 50 0");
        x.advance(500);
        x.advance(499);
        Check.is(x.remaining(0), 1);
        Check.is(x.workingOn(0), 0);
        Check.is(x.stateOf(0), 1);
        Check.is(x.advance(1), 1);
        Check.is(x.remaining(0), 0);
        Check.is(x.workingOn(0), -1);
        Check.is(x.busyTicks(0), 1000);
    }

    /** "the order is at its next step and arrives there at the present time", also if that station is idle. */
    private static void nextStepIsNotBegunAtOnce() {
        DrumRope x = Check.shop("stations 2 1;buffers 500 10;product 0 1 1 1;order 0 1 0");
        x.advance(1);
        Check.is(x.stepOf(0), 1);
        Check.is(x.isWorkedOn(0), false);
        Check.is(x.workingOn(1), -1);
        Check.is(x.queueLength(1), 1);
        Check.is(x.busyTicks(1), 0);
        Check.is(x.advance(1), 1);
        // against the order of the stations
        DrumRope y = Check.shop("stations 2 0;buffers 500 10;product 1 1 0 1;order 0 1 0");
        Check.is(y.advance(1), 0);
        Check.is(y.stepOf(0), 1);
        Check.is(y.advance(1), 1);
        Check.is(y.finishedAt(0), 2);
    }

    /** Two that are finished in the same tick at different stations arrive at the same time. */
    private static void arrivesInTheSameTick() {
        for (int time = 2; time <= 4; time++) {
            DrumRope x = Check.shop("stations 3 2;buffers 500 10;product 0 3 2 1;product 1 " + time
                    + " 2 1;order 1 1 50;order 0 1 50");
            x.stop(2, 50);
            x.advance(6);
            Check.is(x.queueLength(2), 2);
            Check.is(x.nextChoice(2), time <= 3 ? 0 : 1);
        }
    }

    /** Two steps at one station, one behind the other: the order waits there anew. */
    private static void arrivesAtTheSameStationAgain() {
        DrumRope x = Check.shop("stations 2 0;buffers 500 10;product 1 2 1 2 0 1;order 0 1 0;order 0 1 1");
        x.advance(2);
        Check.is(x.stepOf(0), 1);
        Check.is(x.queueLength(1), 2);
        // order 1 has waited since 0, order 0 since 2
        Check.is(x.nextChoice(1), 1);
        x.advance(1);
        Check.is(x.workingOn(1), 1);
    }

    private static int choiceBy(DrumRope x, int rule) {
        x.setRule(rule);
        return x.nextChoice(0);
    }

    private static void checkChoices(DrumRope x, int first, int second, int third, int fourth) {
        Check.is(choiceBy(x, 0), first, "the choice by rule 0");
        Check.is(choiceBy(x, 1), second, "the choice by rule 1");
        Check.is(choiceBy(x, 2), third, "the choice by rule 2");
        Check.is(choiceBy(x, 3), fourth, "the choice by rule 3");
    }

    /** "chooses .. an expedited one if there is one .. Among them it chooses by the rule". */
    private static void expeditedOnes() {
        DrumRope x = Check.shop(QUEUE);
        x.stop(0, 100);
        x.advance(1);
        checkChoices(x, 0, 1, 1, 2);
        x.expedite(0, true);
        checkChoices(x, 0, 0, 0, 0);
        x.expedite(2, true);
        checkChoices(x, 0, 0, 0, 2);
        x.expedite(1, true);
        checkChoices(x, 0, 1, 1, 2);
        x.expedite(0, false);
        checkChoices(x, 1, 1, 1, 2);
        // the mark of one that is somewhere else does not matter here
        DrumRope far = Check.shop("stations 2 0;buffers 500 10;product 0 1;product 1 9 0 1;order 0 5 50;order 1 1 40");
        far.stop(0, 100);
        far.expedite(1, true);
        far.advance(2);
        Check.is(far.nextChoice(0), 0);
        Check.is(far.workingOn(1), 1);
    }

    /** "with AUTO 1, orders in the zones red and black count as expedited, too": 666 is yellow, 668 red. */
    private static void redAndBlackOnesWithAuto() {
        for (int auto = 0; auto <= 1; auto++) {
            // planned from 500 and from 800: released at 0 and 300; the second one is the shorter one
            DrumRope x = Check.shop("stations 1 0;buffers 500 10;rope 500;rule 3;auto " + auto
                    + ";product 0 1;order 0 9 519;order 0 1 811");
            x.stop(0, 500);
            x.advance(333);
            Check.is(x.releasedAt(1), 300);
            Check.is(x.penetration(0), 666);
            Check.is(x.nextChoice(0), 1);
            x.advance(1);
            Check.is(x.penetration(0), 668);
            Check.is(x.nextChoice(0), auto == 1 ? 0 : 1);
            x.advance(166);
            Check.is(x.zone(0), 3);
            Check.is(x.zone(1), 1);
            Check.is(x.nextChoice(0), auto == 1 ? 0 : 1);
            // marked or red, they are of one rank
            x.expedite(1, true);
            Check.is(x.nextChoice(0), 1);
            x.expedite(1, false);
            x.expedite(0, true);
            Check.is(x.nextChoice(0), 0);
            x.expedite(0, false);
            x.advance(1);
            Check.is(x.workingOn(0), auto == 1 ? 0 : -1);
            Check.is(x.stateOf(1), auto == 1 ? 1 : 2);
            // both black, and the longer one with the smaller number is marked besides
            DrumRope y = Check.shop("stations 1 0;buffers 30 10;rope 500;rule 3;auto " + auto
                    + ";product 0 1;order 0 9 0;order 0 1 1");
            y.stop(0, 50);
            y.advance(50);
            Check.is(y.inZone(3), 2);
            y.expedite(0, true);
            Check.is(y.nextChoice(0), auto == 1 ? 1 : 0);
        }
    }

    /** "0 the one that arrived first". */
    private static void ruleByArrival() {
        DrumRope x = Check.shop("stations 1 0;buffers 10 10;product 0 1;order 0 1 31;order 0 2 30");
        // planned from 20 and 18: released at 10 and 8
        x.stop(0, 50);
        x.advance(11);
        Check.is(x.releasedAt(0), 10);
        Check.is(x.releasedAt(1), 8);
        checkChoices(x, 1, 1, 1, 0);
    }

    /** "1 the one with the greatest penetration": in equal steps of a thousandth the smaller number. */
    private static void ruleByPenetration() {
        DrumRope x = Check.shop("stations 2 0;buffers 500 500;rope 5000;rule 1;product 0 1 1 1;order 0 1 900;order 0 1 700;"
                + "order 0 1 701");
        x.stop(1, 500);
        x.advance(500);
        x.stop(1, 500);
        x.advance(200);
        // all have passed the drum, and wait with 600, 1000 and 998 of their shipping buffer
        Check.is(x.penetration(0), 600);
        Check.is(x.penetration(1), 1000);
        Check.is(x.penetration(2), 998);
        Check.is(x.nextChoice(1), 1);
        x.setDue(2, 699);
        Check.is(x.nextChoice(1), 2);
        x.setDue(2, 700);
        Check.is(x.nextChoice(1), 1);
        x.setDue(0, 700);
        Check.is(x.nextChoice(1), 0);
        // before their buffers begin all are at 0
        x.setDue(0, 9002);
        x.setDue(1, 9001);
        x.setDue(2, 9000);
        Check.is(x.nextChoice(1), 0);
    }

    /** "2 the one with the smallest due time". */
    private static void ruleByDueTime() {
        DrumRope x = Check.shop(QUEUE);
        x.stop(0, 100);
        x.advance(1);
        x.setDue(2, 80);
        Check.is(choiceBy(x, 2), 1);
        x.setDue(2, 79);
        Check.is(choiceBy(x, 2), 2);
        x.setDue(0, 79);
        Check.is(choiceBy(x, 2), 0);
        x.setDue(0, 0);
        Check.is(choiceBy(x, 2), 0);
    }

    /** "3 the one with the smallest time * quantity at this station (without setup)". */
    private static void ruleByWorkWithoutSetup() {
        DrumRope x = Check.shop("stations 2 0;buffers 500 10;rope 500;rule 3;setup 0 50;product 0 1 1 20;product 0 2;"
                + "order 0 1 10;order 0 11 20;order 1 5 30");
        x.advance(1);
        // after order 0 the setup would make order 2 the longer one
        Check.is(x.workingOn(0), 0);
        Check.is(x.nextChoice(0), 2);
        x.advance(51);
        Check.is(x.workingOn(0), 2);
        Check.is(x.remaining(2), 59);
        // the work elsewhere does not count: 10 and 10, then 10 and 9
        DrumRope y = Check.shop("stations 2 0;buffers 500 10;rope 500;rule 3;product 0 1 1 20;product 0 2;product 0 9;"
                + "order 0 10 10;order 1 5 20;order 2 1 30");
        y.stop(0, 9);
        y.advance(1);
        Check.is(y.nextChoice(0), 2);
        y.advance(9);
        Check.is(y.workingOn(0), 2);
        Check.is(y.nextChoice(0), 0);
        // at a station that is not the drum: 8 and 7 there, 4 and 70 at the drum
        DrumRope z = Check.shop("stations 2 0;buffers 500 10;rope 500;rule 3;product 1 2 0 1;product 1 1 0 10;"
                + "order 0 4 10;order 1 7 20");
        z.stop(1, 9);
        z.advance(1);
        Check.is(z.nextChoice(1), 1);
    }

    /** "Of several, the one with the smallest number." */
    private static void smallestNumberOfSeveral() {
        DrumRope x = Check.shop("stations 1 0;buffers 500 10;rope 500;product 0 1" + ";order 0 1 0".repeat(4));
        x.stop(0, 100);
        x.advance(1);
        for (int i = 0; i < 4; i++) {
            x.setDue(i, 40);
        }
        Check.is(choiceBy(x, 0), 0);
        Check.is(choiceBy(x, 2), 0);
        Check.is(choiceBy(x, 3), 0);
        x.expedite(2, true);
        x.expedite(3, true);
        Check.is(choiceBy(x, 0), 2);
        Check.is(choiceBy(x, 2), 2);
        Check.is(choiceBy(x, 3), 2);
        x.expedite(1, true);
        Check.is(choiceBy(x, 0), 1);
        x.setRule(0);
        x.stop(0, 0);
        x.advance(1);
        Check.is(x.finishedAt(1), 2);
    }

    private static void checkZone(DrumRope x, int now, int penetration, int zone) {
        if (now > x.now()) {
            x.advance(now - x.now());
        }
        Check.is(x.penetration(0), penetration, "the penetration at " + now);
        Check.is(x.zone(0), zone, "the zone at " + now);
    }

    /** "green (0) if 3 * penetration is less than 1000, yellow (1) if .. less than 2000, red (2) if .. less than 3000". */
    private static void zonesOfTheBuffer() {
        // planned from 499, released at 0
        DrumRope x = Check.shop("stations 1 0;buffers 499 10;product 0 1;order 0 1 510");
        x.stop(0, 500);
        x.advance(1);
        x.stop(0, 500);
        checkZone(x, 1, 2, 0);
        checkZone(x, 166, 332, 0);
        checkZone(x, 167, 334, 1);
        checkZone(x, 332, 665, 1);
        checkZone(x, 333, 667, 2);
        checkZone(x, 498, 997, 2);
        checkZone(x, 499, 1000, 3);
        checkZone(x, 500, 1002, 3);
        // thirds exactly: 333 is green, 666 is yellow
        DrumRope y = Check.shop("stations 1 0;buffers 3 10;product 0 1;order 0 1 14");
        y.stop(0, 500);
        Check.is(y.releaseTime(0), 0);
        checkZone(y, 1, 333, 0);
        checkZone(y, 2, 666, 1);
        checkZone(y, 3, 1000, 3);
        checkZone(y, 300, 100000, 3);
        DrumRope z = Check.shop("stations 1 0;buffers 500 10;product 0 1;order 0 1 511");
        z.stop(0, 500);
        checkZone(z, 499, 998, 2);
        checkZone(z, 500, 1000, 3);
    }

    /** "from then on, begin is its due time minus SHIPPING, and length is SHIPPING". */
    private static void zonesOfTheShipping() {
        DrumRope x = Check.shop("stations 2 0;buffers 7 499;product 0 1 1 1;order 0 1 499");
        x.stop(1, 500);
        checkZone(x, 1, 2, 0);
        Check.is(x.stepOf(0), 1);
        checkZone(x, 166, 332, 0);
        checkZone(x, 167, 334, 1);
        checkZone(x, 332, 665, 1);
        checkZone(x, 333, 667, 2);
        checkZone(x, 498, 997, 2);
        checkZone(x, 499, 1000, 3);
        x.setDue(0, 500);
        checkZone(x, 499, 997, 2);
        x.setDue(0, 0);
        checkZone(x, 499, 2000, 3);
    }

    /** "1000 * (now - begin) / length, but at least 0". */
    private static void atLeastZero() {
        DrumRope x = Check.shop("stations 2 0;buffers 500 3;product 0 1 1 1;order 0 1 10");
        x.stop(1, 500);
        checkZone(x, 1, 0, 0);
        checkZone(x, 6, 0, 0);
        checkZone(x, 7, 0, 0);
        checkZone(x, 8, 333, 0);
        checkZone(x, 9, 666, 1);
        checkZone(x, 10, 1000, 3);
        x.setDue(0, 30000);
        checkZone(x, 10, 0, 0);
    }

    /** "Until its step at the drum is begun, begin is its kept release time, and length is BUFFER". */
    private static void fromTheDrumOn() {
        DrumRope x = Check.shop("stations 2 1;buffers 30 7;product 0 5 1 5;order 0 1 42");
        // planned from 30, released at 0, at the drum at 5
        x.stop(1, 37);
        checkZone(x, 1, 33, 0);
        checkZone(x, 5, 166, 0);
        Check.is(x.stepOf(0), 1);
        checkZone(x, 29, 966, 2);
        checkZone(x, 37, 1233, 3);
        Check.is(x.isWorkedOn(0), false);
        checkZone(x, 38, 428, 1);
        Check.is(x.isWorkedOn(0), true);
        checkZone(x, 41, 857, 2);
    }

    /** Promises 37 and 38: "0" and "NONE if it is not released, finished or cancelled". */
    private static void noZone() {
        DrumRope x = Check.shop("stations 1 0;buffers 5 5;product 0 1;order 0 9 0;order 0 1 500;order 0 1 500");
        Check.is(x.penetration(0), 0);
        Check.is(x.zone(0), -1);
        x.advance(8);
        Check.is(x.penetration(0), 2600);
        Check.is(x.zone(0), 3);
        x.advance(1);
        Check.is(x.stateOf(0), 2);
        Check.is(x.penetration(0), 0);
        Check.is(x.zone(0), -1);
        x.advance(400);
        x.cancel(1);
        Check.is(x.penetration(1), 0);
        Check.is(x.zone(1), -1);
        Check.is(x.penetration(2), 0);
        Check.is(x.zone(2), -1);
        for (int zone = 0; zone <= 3; zone++) {
            Check.is(x.inZone(zone), 0);
        }
    }

    /** Promise 39: "Counts the released orders in a zone." */
    private static void inZone() {
        DrumRope x = Check.shop("stations 1 0;buffers 30 30;rope 500;product 0 1" + ";order 0 1 0".repeat(20)
                + ";order 0 1 30000");
        x.stop(0, 500);
        x.advance(1);
        // planned from 0, 1, 2 .. 19: 30 black, 31 - i of 30 left at 1
        int[] counts = new int[4];
        for (int i = 0; i < 20; i++) {
            counts[x.zone(i)]++;
        }
        Check.is(x.zone(0), 3);
        Check.is(x.zone(1), 3);
        Check.is(x.zone(2), 2);
        Check.is(x.zone(19), 1);
        Check.is(counts[3], 2);
        Check.is(counts[2], 9);
        Check.is(counts[1], 9);
        for (int zone = 0; zone <= 3; zone++) {
            Check.is(x.inZone(zone), counts[zone]);
        }
        for (int bad : new int[] {-1, 4, Integer.MIN_VALUE, Integer.MAX_VALUE}) {
            Check.argument(() -> x.inZone(bad));
        }
    }

    /** Tick (5): "and which was not seen so before, is counted". */
    private static void seenOnce() {
        DrumRope x = Check.shop("stations 2 0;buffers 30 30;product 0 1 1 9;order 0 1 60");
        // planned from 29, released at 0 with -1, the drum begins it at 0
        x.stop(1, 500);
        x.advance(50);
        Check.is(x.penetration(0), 666);
        Check.is(x.firstRedAt(0), -1);
        Check.is(x.redAt(1), 0);
        Check.is(x.worstStation(), -1);
        x.advance(1);
        Check.is(x.penetration(0), 700);
        Check.is(x.firstRedAt(0), 1);
        Check.is(x.redAt(1), 1);
        // green again, then red again, then black
        x.setDue(0, 100);
        x.advance(1);
        Check.is(x.zone(0), 0);
        Check.is(x.firstRedAt(0), 1);
        x.advance(60);
        Check.is(x.zone(0), 3);
        Check.is(x.redAt(1), 1);
        // a due time alone does not let it be seen: that is for the end of a tick
        DrumRope y = Check.shop("stations 2 0;buffers 30 30;product 0 1 1 9;order 0 1 60");
        y.stop(1, 500);
        y.advance(9);
        y.setDue(0, 0);
        Check.is(y.zone(0), 3);
        Check.is(y.firstRedAt(0), -1);
        y.setDue(0, 60);
        y.advance(1);
        Check.is(y.firstRedAt(0), -1);
        Check.is(y.redAt(1), 0);
    }

    /** Tick (5): "is counted for the station of its present step": behind the tick's last change. */
    private static void countedForItsPresentStation() {
        // released at 0 with 0; at 20 of 30 yellow, at 21 red
        for (int time = 19; time <= 20; time++) {
            DrumRope x = Check.shop("stations 2 1;buffers 30 10;setup 0 1;product 0 " + time + " 1 1;order 0 1 41");
            x.stop(1, 500);
            Check.is(x.releaseTime(0), 0);
            x.advance(22);
            Check.is(x.firstRedAt(0), 1);
            Check.is(x.redAt(0), 0);
            Check.is(x.redAt(1), 1);
        }
        DrumRope x = Check.shop("stations 2 1;buffers 30 10;setup 0 2;product 0 20 1 1;order 0 1 41");
        x.advance(22);
        Check.is(x.firstRedAt(0), 0);
        Check.is(x.redAt(0), 1);
        Check.is(x.redAt(1), 0);
        x.advance(100);
        Check.is(x.stateOf(0), 2);
        Check.is(x.firstRedAt(0), 0);
        // finished in that very tick, it is no released order any more
        DrumRope done = Check.shop("stations 1 0;buffers 30 30;setup 0 21;product 0 1;order 0 9 30");
        done.advance(19);
        done.setDue(0, 39);
        Check.is(done.zone(0), 0);
        done.advance(10);
        Check.is(done.penetration(0), 666);
        Check.is(done.remaining(0), 1);
        Check.is(done.advance(1), 1);
        Check.is(done.firstRedAt(0), -1);
        Check.is(done.worstStation(), -1);
    }

    /** Promise 41: "the smallest of several; NONE if no order was seen in red or black". */
    private static void worstStation() {
        Check.is(new DrumRope().worstStation(), -1);
        DrumRope x = Check.shop("stations 6 5;buffers 500 10;rope 500;product 4 20 5 1;product 3 20 5 1;product 5 1;"
                + "order 0 1 0;order 1 1 0;order 0 1 0");
        x.advance(1);
        Check.is(x.redAt(4), 2);
        Check.is(x.redAt(3), 1);
        Check.is(x.worstStation(), 4);
        x.addOrder(1, 1, 0);
        x.advance(1);
        Check.is(x.redAt(3), 2);
        Check.is(x.worstStation(), 3);
        Check.is(x.redAt(5), 0);
        // one order alone makes a station the worst, station 0 as well
        DrumRope one = Check.shop("stations 3 2;buffers 500 10;product 1 9 2 1;product 0 9 2 1;order 0 1 0");
        one.advance(1);
        Check.is(one.worstStation(), 1);
        one.addOrder(1, 1, 0);
        one.advance(1);
        Check.is(one.redAt(0), 1);
        Check.is(one.worstStation(), 0);
        // after another load none was seen
        Check.is(Check.load(x, "stations 3 0"), 0);
        Check.is(x.worstStation(), -1);
        Check.is(Check.load(x, "stations 6 5"), 0);
        Check.is(x.worstStation(), -1);
    }

    /** Promises 43 and 44: "without the one on which it works"; "NONE if none waits". */
    private static void queueAndChoice() {
        DrumRope x = Check.shop(QUEUE);
        Check.is(x.queueLength(0), 0);
        Check.is(x.nextChoice(0), -1);
        x.advance(1);
        Check.is(x.workingOn(0), 0);
        Check.is(x.queueLength(0), 2);
        Check.is(x.nextChoice(0), 1);
        x.advance(10);
        Check.is(x.queueLength(0), 1);
        Check.is(x.nextChoice(0), 2);
        x.advance(20);
        Check.is(x.workingOn(0), 2);
        Check.is(x.queueLength(0), 0);
        Check.is(x.nextChoice(0), -1);
        x.advance(20);
        Check.is(x.workingOn(0), -1);
        Check.is(x.nextChoice(0), -1);
        DrumRope full = Check.shop("stations 1 0;buffers 500 10;product 0 1" + ";order 0 1 0".repeat(24));
        full.stop(0, 1);
        full.advance(1);
        Check.is(full.queueLength(0), 24);
        Check.is(full.nextChoice(0), 0);
    }

    /** Promise 45: "NONE if it is not down now". */
    private static void downUntil() {
        DrumRope x = Check.shop("stations 2 0");
        x.advance(7);
        Check.is(x.downUntil(0), -1);
        x.stop(0, 0);
        Check.is(x.downUntil(0), -1);
        x.stop(0, 1);
        Check.is(x.downUntil(0), 8);
        Check.is(x.downUntil(1), -1);
        x.advance(1);
        Check.is(x.downUntil(0), -1);
        x.stop(0, 500);
        x.advance(499);
        Check.is(x.downUntil(0), 508);
        x.advance(1);
        Check.is(x.downUntil(0), -1);
    }

    /** Promise 46: "in how many ticks a station has worked": setups are work, being down is not. */
    private static void busyTicks() {
        DrumRope x = Check.shop("stations 2 0;buffers 500 10;setup 0 3;product 0 1;order 0 2 0");
        Check.is(x.busyTicks(0), 0);
        x.advance(1);
        Check.is(x.busyTicks(0), 1);
        x.stop(0, 1);
        x.advance(1);
        Check.is(x.busyTicks(0), 1);
        x.advance(3);
        Check.is(x.busyTicks(0), 4);
        x.advance(1);
        Check.is(x.stateOf(0), 2);
        Check.is(x.busyTicks(0), 5);
        x.advance(9);
        Check.is(x.busyTicks(0), 5);
        Check.is(x.busyTicks(1), 0);
    }
}
