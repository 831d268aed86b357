import java.util.HashMap;
import java.util.Map;
import java.util.function.Function;

/**
 * Section 6: "A method that returns an error or throws an exception changes nothing, except that load()
 * empties the buffer and sets the results of loadError() and loadStatement()." Each refused call is made
 * on one of two shops that are alike; then all that can be told of both is compared.
 */
public final class RefusalTest {
    private static final String INDEX = "IndexOutOfBoundsException";
    private static final String ARGUMENT = "IllegalArgumentException";
    /** The first that is no order, station or product of any shop here, and what is far outside. */
    private static final int[] FAR = {-1, -2, 24, Integer.MIN_VALUE, Integer.MAX_VALUE};

    private enum Kind { NEW, BUSY, FULL }

    private static final Map<Kind, String> DUE = new HashMap<>();

    public static void main(String[] args) {
        shopsAreAsMeant();
        appendByte();
        loads();
        products();
        advance();
        addOrder();
        cancelAndSetDue();
        settings();
        orderQuestions();
        stationQuestions();
        ahead();
        snapshots();
        newObject();
        questionsChangeNothing();
        Check.end();
    }

    private static DrumRope make(Kind kind) {
        return kind == Kind.NEW ? new DrumRope() : kind == Kind.BUSY ? busy() : full();
    }

    /** Orders in all states, a mark, a stop, a snapshot, and an empty buffer. */
    private static DrumRope busyWithoutText() {
        DrumRope x = Check.shop("stations 3 1;buffers 30 20;rope 60;rule 1;auto 1;setup 0 3;product 0 2 1 3 2 1;"
                + "product 2 4 1 2;order 0 4 90;order 1 3 40;order 0 5 70;order 1 9 300;order 0 1 500");
        x.cancel(4);
        x.expedite(3, true);
        x.stop(2, 12);
        x.advance(20);
        x.saveSnapshot(0);
        x.advance(25);
        x.stop(0, 9);
        return x;
    }

    /** Besides, an error of a load, and a text that waits in the buffer. */
    private static DrumRope busy() {
        DrumRope x = busyWithoutText();
        Check.load(x, "stations 1 0;rope 0");
        Check.type(x, "stations 2 1;rope 77;rule 3;product 1 2;order 0 3 50");
        return x;
    }

    /** No room in the buffer, none for an order, and a hundred ticks left. */
    private static DrumRope full() {
        DrumRope x = Check.shop("stations 1 0;rope 40;product 0 20" + ";order 0 1 29999".repeat(12)
                + ";order 0 2 30000".repeat(12));
        for (int i = 0; i < 59; i++) {
            x.advance(500);
        }
        x.saveSnapshot(1);
        x.advance(400);
        String text = "stations 1 0;rope 78;product 0 3";
        Check.type(x, text + " ".repeat(700 - text.length()));
        return x;
    }

    private static String due(Kind kind) {
        if (!DUE.containsKey(kind)) {
            DUE.put(kind, Questions.everything(make(kind)));
        }
        return DUE.get(kind);
    }

    /** The call answers or throws what is due, and leaves the shop as it is. */
    private static void refused(Kind kind, Object answer, Function<DrumRope, Object> call) {
        DrumRope x = make(kind);
        Object got;
        try {
            got = call.apply(x);
        } catch (RuntimeException e) {
            got = e.getClass().getSimpleName();
        }
        Check.is(got, answer);
        Check.is(Questions.everything(x), due(kind), "all that can be told behind the refused call");
    }

    private static void shopsAreAsMeant() {
        DrumRope x = busy();
        int[] states = {1, 2, 2, 0, 3};
        for (int i = 0; i < 5; i++) {
            Check.is(x.stateOf(i), states[i], "the state of " + i);
        }
        Check.is(x.loadError(), 2);
        Check.is(x.loadStatement(), 1);
        DrumRope y = full();
        Check.is(y.now(), 29900);
        Check.is(y.orderCount(), 24);
        Check.is(y.appendByte(' '), DrumRope.FULL);
    }

    private static void appendByte() {
        for (int bad : new int[] {-1, 256, Integer.MIN_VALUE, Integer.MAX_VALUE}) {
            refused(Kind.NEW, ARGUMENT, x -> x.appendByte(bad));
            refused(Kind.BUSY, ARGUMENT, x -> x.appendByte(bad));
            // "exceptions come before errors"
            refused(Kind.FULL, ARGUMENT, x -> x.appendByte(bad));
        }
        for (int value : new int[] {0, ' ', 'x', 255}) {
            refused(Kind.FULL, DrumRope.FULL, x -> x.appendByte(value));
        }
    }

    /** "The buffer is emptied, also on an error", "and then everything stays as it is": each kind of them. */
    private static void loads() {
        String six = "stations 1 0" + ";product 0 1".repeat(6);
        String[] texts = {"", "stations 1 0;x", "stations 6 5;rope 9;rule 2;auto 0;setup 5 9;product 5 1;order 0 1 1;",
            "stations 1 0;buffers 1 501", "stations 2 0;product 1 1", six + ";product 0 1",
            six + ";order 0 1 1".repeat(24) + ";order 0 1 1", "stations 1 0;rope 2;product 0 1;order 0 3 1"};
        int[] kinds = {1, 1, 1, 2, 3, 4, 4, 5};
        String due = Questions.allButLoad(busyWithoutText());
        for (int i = 0; i < texts.length; i++) {
            DrumRope x = busyWithoutText();
            Check.is(Check.load(x, texts[i]) <= -100, true);
            Check.is(x.loadError(), kinds[i]);
            Check.is(Questions.allButLoad(x), due, "all behind a load with an error");
        }
    }

    /** "If several exceptions apply, the one that is named first is thrown". */
    private static void products() {
        for (int bad : new int[] {-1, 2, 6, Integer.MIN_VALUE, Integer.MAX_VALUE}) {
            refused(Kind.BUSY, INDEX, x -> x.stepCount(bad));
            refused(Kind.BUSY, INDEX, x -> x.stepAt(bad, 0, 0));
            refused(Kind.BUSY, INDEX, x -> x.stepAt(bad, 99, 2));
            for (int quantity : new int[] {1, 0, 51}) {
                refused(Kind.BUSY, INDEX, x -> x.workOf(bad, quantity));
                refused(Kind.BUSY, INDEX, x -> x.drumWork(bad, quantity));
                refused(Kind.BUSY, INDEX, x -> x.quote(bad, quantity));
                refused(Kind.BUSY, INDEX, x -> x.finishIfAdded(bad, quantity, 1));
                refused(Kind.BUSY, INDEX, x -> x.finishIfAdded(bad, quantity, -1));
            }
        }
        for (int bad : new int[] {0, 51, -1, Integer.MIN_VALUE, Integer.MAX_VALUE}) {
            refused(Kind.BUSY, ARGUMENT, x -> x.workOf(1, bad));
            refused(Kind.BUSY, ARGUMENT, x -> x.drumWork(1, bad));
            refused(Kind.BUSY, ARGUMENT, x -> x.quote(1, bad));
            refused(Kind.BUSY, ARGUMENT, x -> x.finishIfAdded(1, bad, 1));
        }
        for (int bad : new int[] {-1, 2, Integer.MIN_VALUE, Integer.MAX_VALUE}) {
            refused(Kind.BUSY, ARGUMENT, x -> x.stepAt(1, 0, bad));
            refused(Kind.BUSY, ARGUMENT, x -> x.stepAt(1, 2, bad));
            refused(Kind.BUSY, DrumRope.NONE, x -> x.stepAt(0, bad == 2 ? 3 : bad, 0));
        }
        refused(Kind.BUSY, DrumRope.TOO_LARGE, x -> x.quote(0, 21));
        refused(Kind.FULL, DrumRope.TOO_LARGE, x -> x.quote(0, 3));
    }

    private static void advance() {
        for (int bad : new int[] {0, 501, -1, Integer.MIN_VALUE, Integer.MAX_VALUE}) {
            refused(Kind.NEW, ARGUMENT, x -> x.advance(bad));
            refused(Kind.BUSY, ARGUMENT, x -> x.advance(bad));
            refused(Kind.FULL, ARGUMENT, x -> x.advance(bad));
        }
        refused(Kind.FULL, DrumRope.FULL, x -> x.advance(101));
        refused(Kind.FULL, DrumRope.FULL, x -> x.advance(500));
        DrumRope x = full();
        Check.is(x.advance(100) >= 0, true);
        Check.is(x.now(), 30000);
    }

    /** "exceptions come before errors, FULL before TOO_LARGE". */
    private static void addOrder() {
        for (int bad : new int[] {-1, 2, Integer.MIN_VALUE, Integer.MAX_VALUE}) {
            refused(Kind.BUSY, INDEX, x -> x.addOrder(bad, 1, 1));
            refused(Kind.BUSY, INDEX, x -> x.addOrder(bad, 0, 1));
            refused(Kind.BUSY, INDEX, x -> x.addOrder(bad, 1, -1));
            refused(Kind.FULL, INDEX, x -> x.addOrder(bad, 51, 30001));
            refused(Kind.FULL, INDEX, x -> x.finishIfAdded(bad, 51, 30001));
        }
        for (int bad : new int[] {0, 51, -1, Integer.MIN_VALUE, Integer.MAX_VALUE}) {
            refused(Kind.BUSY, ARGUMENT, x -> x.addOrder(0, bad, 1));
            refused(Kind.FULL, ARGUMENT, x -> x.addOrder(0, bad, 1));
            refused(Kind.FULL, ARGUMENT, x -> x.finishIfAdded(0, bad, 1));
        }
        for (int bad : new int[] {-1, 30001, Integer.MIN_VALUE, Integer.MAX_VALUE}) {
            refused(Kind.BUSY, ARGUMENT, x -> x.addOrder(0, 1, bad));
            refused(Kind.BUSY, ARGUMENT, x -> x.addOrder(0, 50, bad));
            refused(Kind.BUSY, ARGUMENT, x -> x.finishIfAdded(0, 50, bad));
            refused(Kind.FULL, ARGUMENT, x -> x.addOrder(0, 1, bad));
            refused(Kind.FULL, ARGUMENT, x -> x.finishIfAdded(0, 1, bad));
        }
        refused(Kind.BUSY, DrumRope.TOO_LARGE, x -> x.addOrder(0, 21, 100));
        refused(Kind.BUSY, DrumRope.TOO_LARGE, x -> x.addOrder(1, 31, 100));
        refused(Kind.BUSY, DrumRope.TOO_LARGE, x -> x.finishIfAdded(0, 21, 100));
        refused(Kind.FULL, DrumRope.FULL, x -> x.addOrder(0, 2, 100));
        refused(Kind.FULL, DrumRope.FULL, x -> x.addOrder(0, 3, 100));
        refused(Kind.FULL, DrumRope.FULL, x -> x.finishIfAdded(0, 2, 100));
        refused(Kind.FULL, DrumRope.FULL, x -> x.finishIfAdded(0, 3, 100));
        Check.is(busy().addOrder(0, 20, 100), 5);
        Check.is(busy().addOrder(1, 30, 100), 5);
    }

    private static void cancelAndSetDue() {
        for (int bad : new int[] {-1, 5, 24, Integer.MIN_VALUE, Integer.MAX_VALUE}) {
            refused(Kind.BUSY, INDEX, x -> x.cancel(bad));
            refused(Kind.BUSY, INDEX, x -> x.setDue(bad, 5));
            refused(Kind.BUSY, INDEX, x -> x.setDue(bad, -1));
            refused(Kind.BUSY, INDEX, x -> x.expedite(bad, true));
            refused(Kind.BUSY, INDEX, x -> x.expedite(bad, false));
        }
        for (int order : new int[] {0, 1, 2, 4}) {
            refused(Kind.BUSY, DrumRope.WRONG_STATE, x -> x.cancel(order));
        }
        for (int order = 0; order < 5; order++) {
            int o = order;
            for (int bad : new int[] {-1, 30001, Integer.MIN_VALUE, Integer.MAX_VALUE}) {
                refused(Kind.BUSY, ARGUMENT, x -> x.setDue(o, bad));
            }
        }
        refused(Kind.BUSY, DrumRope.WRONG_STATE, x -> x.setDue(1, 0));
        refused(Kind.BUSY, DrumRope.WRONG_STATE, x -> x.setDue(4, 30000));
    }

    private static void settings() {
        for (int bad : new int[] {-1, 4, Integer.MIN_VALUE, Integer.MAX_VALUE}) {
            refused(Kind.BUSY, ARGUMENT, x -> x.setRule(bad));
            refused(Kind.BUSY, ARGUMENT, x -> x.inZone(bad));
            refused(Kind.BUSY, ARGUMENT, x -> x.tardinessAhead(bad));
            refused(Kind.NEW, ARGUMENT, x -> x.setRule(bad));
        }
        for (int bad : new int[] {0, 5001, -1, Integer.MIN_VALUE, Integer.MAX_VALUE}) {
            refused(Kind.BUSY, ARGUMENT, x -> x.setRope(bad));
            refused(Kind.NEW, ARGUMENT, x -> x.setRope(bad));
        }
        // order 3, not released, has a drum work of 18
        refused(Kind.BUSY, DrumRope.TOO_LARGE, x -> x.setRope(17));
        refused(Kind.BUSY, DrumRope.TOO_LARGE, x -> x.setRope(1));
        Check.is(busy().setRope(18), 60);
        for (int bad : new int[] {-1, 501, Integer.MIN_VALUE, Integer.MAX_VALUE}) {
            refused(Kind.BUSY, ARGUMENT, x -> x.stop(0, bad));
            refused(Kind.BUSY, INDEX, x -> x.stop(3, bad));
            refused(Kind.BUSY, INDEX, x -> x.stop(-1, bad));
        }
        for (int bad : new int[] {-1, 3, 6, Integer.MIN_VALUE, Integer.MAX_VALUE}) {
            refused(Kind.BUSY, INDEX, x -> x.stop(bad, 0));
            refused(Kind.BUSY, INDEX, x -> x.stop(bad, 500));
        }
    }

    private static void orderQuestions() {
        for (int bad : new int[] {-1, 5, 24, Integer.MIN_VALUE, Integer.MAX_VALUE}) {
            askOfOrder(Kind.BUSY, bad);
        }
        for (int bad : FAR) {
            askOfOrder(Kind.FULL, bad);
        }
        DrumRope x = full();
        Check.is(x.stateOf(23) >= 0, true);
    }

    private static void askOfOrder(Kind kind, int bad) {
        refused(kind, INDEX, x -> x.stateOf(bad));
        refused(kind, INDEX, x -> x.productOf(bad));
        refused(kind, INDEX, x -> x.quantityOf(bad));
        refused(kind, INDEX, x -> x.dueOf(bad));
        refused(kind, INDEX, x -> x.stepOf(bad));
        refused(kind, INDEX, x -> x.isWorkedOn(bad));
        refused(kind, INDEX, x -> x.remaining(bad));
        refused(kind, INDEX, x -> x.releasedAt(bad));
        refused(kind, INDEX, x -> x.finishedAt(bad));
        refused(kind, INDEX, x -> x.plannedStart(bad));
        refused(kind, INDEX, x -> x.isAtRisk(bad));
        refused(kind, INDEX, x -> x.releaseTime(bad));
        refused(kind, INDEX, x -> x.penetration(bad));
        refused(kind, INDEX, x -> x.zone(bad));
        refused(kind, INDEX, x -> x.finishOf(bad));
        refused(kind, INDEX, x -> x.firstRedAt(bad));
        refused(kind, INDEX, x -> x.flowTime(bad));
        refused(kind, DrumRope.NONE, x -> x.scheduleAt(bad));
    }

    private static void stationQuestions() {
        for (int bad : new int[] {-1, 3, 6, Integer.MIN_VALUE, Integer.MAX_VALUE}) {
            askOfStation(Kind.BUSY, bad);
        }
    }

    private static void askOfStation(Kind kind, int bad) {
        refused(kind, INDEX, x -> x.redAt(bad));
        refused(kind, INDEX, x -> x.workingOn(bad));
        refused(kind, INDEX, x -> x.queueLength(bad));
        refused(kind, INDEX, x -> x.nextChoice(bad));
        refused(kind, INDEX, x -> x.downUntil(bad));
        refused(kind, INDEX, x -> x.busyTicks(bad));
        refused(kind, INDEX, x -> x.setups(bad));
        refused(kind, INDEX, x -> x.loadOf(bad));
    }

    /** "Predictions .. change nothing"; each is made for itself. */
    private static void ahead() {
        for (Kind kind : new Kind[] {Kind.BUSY, Kind.FULL}) {
            for (int rule = 0; rule <= 3; rule++) {
                int r = rule;
                unchanged(kind, x -> x.tardinessAhead(r));
            }
            for (int order = 0; order < 5; order++) {
                int o = order;
                unchanged(kind, x -> x.finishOf(o));
            }
            unchanged(kind, x -> x.bestRule());
            unchanged(kind, x -> x.neededRope());
            unchanged(kind, x -> x.bestExpedite());
            unchanged(kind, x -> x.quote(0, 1));
            unchanged(kind, x -> x.quote(0, 50));
            unchanged(kind, x -> x.finishIfAdded(0, 1, 0));
            unchanged(kind, x -> x.finishIfAdded(0, 2, 30000));
        }
    }

    private static void unchanged(Kind kind, Function<DrumRope, Object> call) {
        DrumRope x = make(kind);
        Object once = call.apply(x);
        Check.is(call.apply(x), once, "the same question asked again");
        Check.is(Questions.everything(x), due(kind), "all that can be told behind a question");
    }

    private static void snapshots() {
        for (int bad : new int[] {-1, 2, Integer.MIN_VALUE, Integer.MAX_VALUE}) {
            for (Kind kind : Kind.values()) {
                refused(kind, ARGUMENT, x -> x.saveSnapshot(bad));
                refused(kind, ARGUMENT, x -> x.restoreSnapshot(bad));
            }
        }
        refused(Kind.NEW, DrumRope.NONE, x -> x.restoreSnapshot(0));
        refused(Kind.NEW, DrumRope.NONE, x -> x.restoreSnapshot(1));
        refused(Kind.BUSY, DrumRope.NONE, x -> x.restoreSnapshot(1));
        refused(Kind.FULL, DrumRope.NONE, x -> x.restoreSnapshot(0));
    }

    /** A new object has no product, no order and one station. */
    private static void newObject() {
        for (int order : new int[] {0, 1, -1, 23, Integer.MIN_VALUE, Integer.MAX_VALUE}) {
            askOfOrder(Kind.NEW, order);
            refused(Kind.NEW, INDEX, x -> x.cancel(order));
            refused(Kind.NEW, INDEX, x -> x.setDue(order, -1));
            refused(Kind.NEW, INDEX, x -> x.expedite(order, true));
            refused(Kind.NEW, INDEX, x -> x.stepCount(order));
            refused(Kind.NEW, INDEX, x -> x.stepAt(order, 0, 0));
            refused(Kind.NEW, INDEX, x -> x.workOf(order, 1));
            refused(Kind.NEW, INDEX, x -> x.drumWork(order, 0));
            refused(Kind.NEW, INDEX, x -> x.addOrder(order, 1, 1));
            refused(Kind.NEW, INDEX, x -> x.quote(order, 1));
            refused(Kind.NEW, INDEX, x -> x.finishIfAdded(order, 1, 1));
        }
        for (int station : new int[] {1, -1, 5, Integer.MIN_VALUE, Integer.MAX_VALUE}) {
            askOfStation(Kind.NEW, station);
            refused(Kind.NEW, INDEX, x -> x.stop(station, 1));
        }
        unchanged(Kind.NEW, x -> x.tardinessAhead(0));
        unchanged(Kind.NEW, x -> x.bestRule());
        unchanged(Kind.NEW, x -> x.neededRope());
        unchanged(Kind.NEW, x -> x.bestExpedite());
    }

    private static void questionsChangeNothing() {
        for (Kind kind : Kind.values()) {
            unchanged(kind, Questions::answers);
            unchanged(kind, x -> x.loadError());
            unchanged(kind, x -> x.loadStatement());
        }
    }
}
