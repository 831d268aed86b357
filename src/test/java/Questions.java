/** Everything that can be asked of a shop, as one text. */
final class Questions {
    private final StringBuilder text = new StringBuilder();
    private final DrumRope x;

    private Questions(DrumRope x) {
        this.x = x;
    }

    /** All answers but those of loadError() and loadStatement(), which a load sets at any rate. */
    static String answers(DrumRope x) {
        Questions q = new Questions(x);
        q.shop();
        q.products();
        q.orders();
        q.stations();
        q.ahead();
        return q.text.toString();
    }

    /**
     * All that can be told of an object, also what shows only when it is changed: the results of the
     * load, the length and the bytes of the input buffer, the rule, the marks, the snapshots, and how
     * the shop goes on. The object is spoilt by it.
     */
    static String everything(DrumRope x) {
        return x.loadError() + " " + x.loadStatement() + " " + allButLoad(x);
    }

    /** The same without the results of the load. */
    static String allButLoad(DrumRope x) {
        Questions q = new Questions(x);
        q.put(answers(x));
        q.rest();
        for (int slot = 0; slot < 2; slot++) {
            q.put(x.restoreSnapshot(slot));
            q.put(answers(x));
            q.rest();
        }
        q.put(x.appendByte(' '));
        q.put(x.load());
        q.put(x.loadError());
        q.put(x.loadStatement());
        q.put(answers(x));
        q.rest();
        return q.text.toString();
    }

    /** What lies ahead first, as the marks and the rule are lost when they are looked at. */
    private void rest() {
        for (int i = 0; i < 3; i++) {
            put(x.advance(17));
            put(answers(x));
        }
        for (int i = 0; i < x.orderCount(); i++) {
            put(x.expedite(i, false));
        }
        put(x.setRule(0));
    }

    private void put(Object answer) {
        text.append(answer).append(' ');
    }

    private void shop() {
        put(x.stationCount());
        put(x.productCount());
        put(x.orderCount());
        put(x.now());
        put(x.rope());
        put(x.ropeLoad());
        put(x.worstStation());
        put(x.starvedTicks());
        put(x.lateCount());
        put(x.tardiness());
        put(x.meanFlow());
        put(x.bottleneck());
        for (int i = 0; i <= x.orderCount(); i++) {
            put(x.scheduleAt(i));
        }
        for (int i = 0; i <= 3; i++) {
            put(x.inZone(i));
        }
    }

    private void products() {
        for (int p = 0; p < x.productCount(); p++) {
            put(x.stepCount(p));
            put(x.workOf(p, 3));
            put(x.drumWork(p, 3));
            put(x.quote(p, 3));
            put(x.finishIfAdded(p, 2, 40));
            for (int k = 0; k < x.stepCount(p); k++) {
                put(x.stepAt(p, k, 0));
                put(x.stepAt(p, k, 1));
            }
        }
    }

    private void orders() {
        for (int i = 0; i < x.orderCount(); i++) {
            put(x.stateOf(i));
            put(x.productOf(i));
            put(x.quantityOf(i));
            put(x.dueOf(i));
            put(x.stepOf(i));
            put(x.isWorkedOn(i));
            put(x.remaining(i));
            put(x.releasedAt(i));
            put(x.finishedAt(i));
            put(x.plannedStart(i));
            put(x.isAtRisk(i));
            put(x.releaseTime(i));
            put(x.penetration(i));
            put(x.zone(i));
            put(x.firstRedAt(i));
            put(x.flowTime(i));
            put(x.finishOf(i));
        }
    }

    private void stations() {
        for (int s = 0; s < x.stationCount(); s++) {
            put(x.redAt(s));
            put(x.workingOn(s));
            put(x.queueLength(s));
            put(x.nextChoice(s));
            put(x.downUntil(s));
            put(x.busyTicks(s));
            put(x.setups(s));
            put(x.loadOf(s));
        }
    }

    private void ahead() {
        for (int rule = 0; rule <= 3; rule++) {
            put(x.tardinessAhead(rule));
        }
        put(x.bestRule());
        put(x.neededRope());
        put(x.bestExpedite());
    }
}
