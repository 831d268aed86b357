/**
 * A simulator of a shop that is run by its drum. The document DOC.md tells what each call promises;
 * the numbers of sections and promises in the comments are the document's.
 */
public final class DrumRope {
    public static final int NONE = -1;
    public static final int FULL = -2;
    public static final int WRONG_STATE = -3;
    public static final int TOO_LARGE = -4;
    public static final int NO_TIME = -1000000;

    private static final int MAX_STATIONS = 6;
    private static final int MAX_PRODUCTS = 6;
    private static final int MAX_STEPS = 6;
    private static final int MAX_ORDERS = 24;
    private static final int MAX_TEXT = 700;
    private static final int MAX_QUANTITY = 50;
    private static final int MAX_TIME = 30000;
    private static final int MAX_ROPE = 5000;
    private static final int MAX_RULE = 3;
    private static final int MAX_TICKS = 500;
    private static final int TICKS_AHEAD = 2000;
    private static final int ROPE_STEP = 100;
    private static final int WIDEST_ROPE = 1000;

    private static final int NOT_RELEASED = 0;
    private static final int RELEASED = 1;
    private static final int FINISHED = 2;
    private static final int CANCELLED = 3;

    private static final int BLACK = 3;

    private final Reader reader = new Reader();
    private final Shop shop = new Shop();
    /** The one row for all that must not touch the shop: reading a text, and the predictions. */
    private final Shop trial = new Shop();
    private final Shop[] saved = new Shop[2];
    private final boolean[] isSaved = new boolean[2];

    public DrumRope() {
        for (int i = 0; i < saved.length; i++) {
            saved[i] = new Shop();
        }
    }

    public int appendByte(int value) throws IllegalArgumentException {
        checkRange(value, 0, 255);
        return reader.append(value);
    }

    public int load() {
        trial.clear();
        reader.readInto(trial);
        if (reader.error != 0) {
            return -100 - reader.errorPosition;
        }
        shop.copyFrom(trial);
        return shop.orderCount;
    }

    public int loadError() {
        return reader.error;
    }

    public int loadStatement() {
        return reader.errorStatement;
    }

    public int stationCount() {
        return shop.stationCount;
    }

    public int productCount() {
        return shop.productCount;
    }

    public int orderCount() {
        return shop.orderCount;
    }

    public int stepCount(int product) throws IndexOutOfBoundsException {
        return findProduct(product).steps;
    }

    public int stepAt(int product, int step, int what)
            throws IndexOutOfBoundsException, IllegalArgumentException {
        Product p = findProduct(product);
        checkRange(what, 0, 1);
        if (step < 0 || step >= p.steps) {
            return NONE;
        }
        return what == 0 ? p.station[step] : p.time[step];
    }

    public int workOf(int product, int quantity)
            throws IndexOutOfBoundsException, IllegalArgumentException {
        Product p = findProduct(product);
        checkRange(quantity, 1, MAX_QUANTITY);
        return p.timeOfPiece() * quantity;
    }

    public int drumWork(int product, int quantity)
            throws IndexOutOfBoundsException, IllegalArgumentException {
        Product p = findProduct(product);
        checkRange(quantity, 1, MAX_QUANTITY);
        return p.drumTime() * quantity;
    }

    public int now() {
        return shop.now;
    }

    public int advance(int ticks) throws IllegalArgumentException {
        checkRange(ticks, 1, MAX_TICKS);
        if (shop.now + ticks > MAX_TIME) {
            return FULL;
        }
        int before = shop.countInState(FINISHED);
        shop.pass(ticks);
        return shop.countInState(FINISHED) - before;
    }

    public int addOrder(int product, int quantity, int due)
            throws IndexOutOfBoundsException, IllegalArgumentException {
        Product p = findProduct(product);
        checkRange(quantity, 1, MAX_QUANTITY);
        checkRange(due, 0, MAX_TIME);
        if (shop.orderCount >= MAX_ORDERS) {
            return FULL;
        }
        if (p.drumTime() * quantity > shop.rope) {
            return TOO_LARGE;
        }
        return shop.enter(product, quantity, due);
    }

    public int cancel(int order) throws IndexOutOfBoundsException {
        Order o = findOrder(order);
        if (o.state != NOT_RELEASED) {
            return WRONG_STATE;
        }
        o.state = CANCELLED;
        return shop.countInState(NOT_RELEASED);
    }

    public int setDue(int order, int due) throws IndexOutOfBoundsException, IllegalArgumentException {
        Order o = findOrder(order);
        checkRange(due, 0, MAX_TIME);
        if (!o.isOpen()) {
            return WRONG_STATE;
        }
        int before = o.due;
        o.due = due;
        return before;
    }

    public boolean expedite(int order, boolean is) throws IndexOutOfBoundsException {
        Order o = findOrder(order);
        boolean before = o.isExpedited;
        o.isExpedited = is;
        return before;
    }

    public int setRule(int rule) throws IllegalArgumentException {
        checkRange(rule, 0, MAX_RULE);
        int before = shop.rule;
        shop.rule = rule;
        return before;
    }

    public int setRope(int rope) throws IllegalArgumentException {
        checkRange(rope, 1, MAX_ROPE);
        if (shop.greatestWorkNotReleased() > rope) {
            return TOO_LARGE;
        }
        int before = shop.rope;
        shop.rope = rope;
        return before;
    }

    public int rope() {
        return shop.rope;
    }

    public int stop(int station, int ticks) throws IndexOutOfBoundsException, IllegalArgumentException {
        Station s = findStation(station);
        checkRange(ticks, 0, MAX_TICKS);
        s.downUntil = shop.now + ticks;
        return s.downUntil;
    }

    public int stateOf(int order) throws IndexOutOfBoundsException {
        return findOrder(order).state;
    }

    public int productOf(int order) throws IndexOutOfBoundsException {
        return findOrder(order).product;
    }

    public int quantityOf(int order) throws IndexOutOfBoundsException {
        return findOrder(order).quantity;
    }

    public int dueOf(int order) throws IndexOutOfBoundsException {
        return findOrder(order).due;
    }

    public int stepOf(int order) throws IndexOutOfBoundsException {
        return findOrder(order).step;
    }

    public boolean isWorkedOn(int order) throws IndexOutOfBoundsException {
        return findOrder(order).remaining > 0;
    }

    public int remaining(int order) throws IndexOutOfBoundsException {
        return findOrder(order).remaining;
    }

    public int releasedAt(int order) throws IndexOutOfBoundsException {
        return findOrder(order).releasedAt;
    }

    public int finishedAt(int order) throws IndexOutOfBoundsException {
        return findOrder(order).finishedAt;
    }

    public int plannedStart(int order) throws IndexOutOfBoundsException {
        Order o = findOrder(order);
        if (o.drumBegunAt != NONE) {
            return o.drumBegunAt;
        }
        return shop.scheduledStart(order);
    }

    public int scheduleAt(int index) {
        shop.schedule.make(shop);
        if (index < 0 || index >= shop.schedule.count) {
            return NONE;
        }
        return shop.schedule.order[index];
    }

    public boolean isAtRisk(int order) throws IndexOutOfBoundsException {
        Order o = findOrder(order);
        int start = shop.scheduledStart(order);
        return start != NO_TIME && start + o.drumWork > o.due - shop.shipping;
    }

    public int ropeLoad() {
        return shop.releasedWork();
    }

    public int releaseTime(int order) throws IndexOutOfBoundsException {
        Order o = findOrder(order);
        if (o.releasedAt != NONE) {
            return o.keptReleaseTime;
        }
        int start = shop.scheduledStart(order);
        return start == NO_TIME ? NO_TIME : start - shop.buffer;
    }

    public int penetration(int order) throws IndexOutOfBoundsException {
        return shop.penetrationOf(findOrder(order));
    }

    public int zone(int order) throws IndexOutOfBoundsException {
        return shop.zoneOf(findOrder(order));
    }

    public int inZone(int zone) throws IllegalArgumentException {
        checkRange(zone, 0, BLACK);
        int count = 0;
        for (int i = 0; i < shop.orderCount; i++) {
            if (shop.zoneOf(shop.orders[i]) == zone) {
                count++;
            }
        }
        return count;
    }

    public int redAt(int station) throws IndexOutOfBoundsException {
        return findStation(station).reds;
    }

    public int worstStation() {
        int worst = NONE;
        int most = 0;
        for (int s = 0; s < shop.stationCount; s++) {
            if (shop.stations[s].reds > most) {
                most = shop.stations[s].reds;
                worst = s;
            }
        }
        return worst;
    }

    public int workingOn(int station) throws IndexOutOfBoundsException {
        return findStation(station).order;
    }

    public int queueLength(int station) throws IndexOutOfBoundsException {
        return findStation(station).waiting;
    }

    public int nextChoice(int station) throws IndexOutOfBoundsException {
        findStation(station);
        return shop.choiceAt(station);
    }

    public int downUntil(int station) throws IndexOutOfBoundsException {
        Station s = findStation(station);
        return s.isDown(shop.now) ? s.downUntil : NONE;
    }

    public int busyTicks(int station) throws IndexOutOfBoundsException {
        return findStation(station).busy;
    }

    public int setups(int station) throws IndexOutOfBoundsException {
        return findStation(station).setupsDone;
    }

    public int starvedTicks() {
        return shop.starved;
    }

    public int lateCount() {
        int count = 0;
        for (int i = 0; i < shop.orderCount; i++) {
            Order o = shop.orders[i];
            if (o.state == FINISHED && o.finishedAt > o.due) {
                count++;
            }
        }
        return count;
    }

    public int tardiness() {
        int sum = 0;
        for (int i = 0; i < shop.orderCount; i++) {
            Order o = shop.orders[i];
            if (o.state == FINISHED) {
                sum += o.latenessAt(o.finishedAt);
            }
        }
        return sum;
    }

    public int quote(int product, int quantity)
            throws IndexOutOfBoundsException, IllegalArgumentException {
        Product p = findProduct(product);
        checkRange(quantity, 1, MAX_QUANTITY);
        int work = p.drumTime() * quantity;
        if (work > shop.rope) {
            return TOO_LARGE;
        }
        shop.schedule.make(shop);
        int from = Math.max(shop.now + shop.buffer, shop.drumFreeAt());
        return shop.schedule.firstFit(shop, work, from) + work + shop.shipping;
    }

    public int finishIfAdded(int product, int quantity, int due)
            throws IndexOutOfBoundsException, IllegalArgumentException {
        Product p = findProduct(product);
        checkRange(quantity, 1, MAX_QUANTITY);
        checkRange(due, 0, MAX_TIME);
        if (shop.orderCount >= MAX_ORDERS) {
            return FULL;
        }
        if (p.drumTime() * quantity > shop.rope) {
            return TOO_LARGE;
        }
        trial.copyFrom(shop);
        int added = trial.enter(product, quantity, due);
        trial.pass(TICKS_AHEAD);
        return trial.orders[added].finishedAt;
    }

    public int finishOf(int order) throws IndexOutOfBoundsException {
        Order o = findOrder(order);
        if (!o.isOpen()) {
            return o.finishedAt;
        }
        trial.copyFrom(shop);
        trial.pass(TICKS_AHEAD);
        return trial.orders[order].finishedAt;
    }

    public int tardinessAhead(int rule) throws IllegalArgumentException {
        checkRange(rule, 0, MAX_RULE);
        return tardinessByRule(rule);
    }

    public int bestRule() {
        int best = 0;
        int least = tardinessByRule(0);
        for (int rule = 1; rule <= MAX_RULE; rule++) {
            int sum = tardinessByRule(rule);
            if (sum < least) {
                least = sum;
                best = rule;
            }
        }
        return best;
    }

    public int neededRope() {
        int enough = tardinessByRope(WIDEST_ROPE);
        int greatest = shop.greatestWorkNotReleased();
        for (int rope = ROPE_STEP; rope < WIDEST_ROPE; rope += ROPE_STEP) {
            if (rope >= greatest && tardinessByRope(rope) <= enough) {
                return rope;
            }
        }
        return WIDEST_ROPE;
    }

    public int firstRedAt(int order) throws IndexOutOfBoundsException {
        return findOrder(order).firstRed;
    }

    public int flowTime(int order) throws IndexOutOfBoundsException {
        return findOrder(order).flowUntil(shop.now);
    }

    public int meanFlow() {
        int sum = 0;
        int count = 0;
        for (int i = 0; i < shop.orderCount; i++) {
            Order o = shop.orders[i];
            if (o.state == FINISHED) {
                sum += o.flowUntil(shop.now);
                count++;
            }
        }
        return count == 0 ? NONE : sum / count;
    }

    public int loadOf(int station) throws IndexOutOfBoundsException {
        findStation(station);
        return shop.workAheadOf(station);
    }

    public int bottleneck() {
        int greatest = 0;
        int found = 0;
        for (int s = 0; s < shop.stationCount; s++) {
            int work = shop.workAheadOf(s);
            if (work > greatest) {
                greatest = work;
                found = s;
            }
        }
        return found;
    }

    public int bestExpedite() {
        int best = NONE;
        int least = tardinessByRule(shop.rule);
        for (int i = 0; i < shop.orderCount; i++) {
            Order o = shop.orders[i];
            if (o.isOpen() && !o.isExpedited) {
                int sum = tardinessIfExpedited(i);
                if (sum < least) {
                    least = sum;
                    best = i;
                }
            }
        }
        return best;
    }

    public int saveSnapshot(int slot) throws IllegalArgumentException {
        checkRange(slot, 0, 1);
        saved[slot].copyFrom(shop);
        isSaved[slot] = true;
        return shop.now;
    }

    public int restoreSnapshot(int slot) throws IllegalArgumentException {
        checkRange(slot, 0, 1);
        if (!isSaved[slot]) {
            return NONE;
        }
        shop.copyFrom(saved[slot]);
        return shop.now;
    }

    private int tardinessByRule(int rule) {
        trial.copyFrom(shop);
        trial.rule = rule;
        trial.pass(TICKS_AHEAD);
        return trial.tardinessIfEndedNow();
    }

    private int tardinessByRope(int rope) {
        trial.copyFrom(shop);
        trial.rope = rope;
        trial.pass(TICKS_AHEAD);
        return trial.tardinessIfEndedNow();
    }

    private int tardinessIfExpedited(int order) {
        trial.copyFrom(shop);
        trial.orders[order].isExpedited = true;
        trial.pass(TICKS_AHEAD);
        return trial.tardinessIfEndedNow();
    }

    private Product findProduct(int product) {
        if (product < 0 || product >= shop.productCount) {
            throw new IndexOutOfBoundsException("no such product");
        }
        return shop.products[product];
    }

    private Order findOrder(int order) {
        if (order < 0 || order >= shop.orderCount) {
            throw new IndexOutOfBoundsException("no such order");
        }
        return shop.orders[order];
    }

    private Station findStation(int station) {
        if (station < 0 || station >= shop.stationCount) {
            throw new IndexOutOfBoundsException("no such station");
        }
        return shop.stations[station];
    }

    private static void checkRange(int value, int low, int high) {
        if (value < low || value > high) {
            throw new IllegalArgumentException("a value is out of its range");
        }
    }

    /** A product: its steps, of which exactly one is at the drum. */
    private static final class Product {
        final int[] station = new int[MAX_STEPS];
        final int[] time = new int[MAX_STEPS];
        int steps;
        int drumStep = NONE;

        void clear() {
            steps = 0;
            drumStep = NONE;
        }

        void copyFrom(Product other) {
            for (int k = 0; k < other.steps; k++) {
                station[k] = other.station[k];
                time[k] = other.time[k];
            }
            steps = other.steps;
            drumStep = other.drumStep;
        }

        int timeOfPiece() {
            int sum = 0;
            for (int k = 0; k < steps; k++) {
                sum += time[k];
            }
            return sum;
        }

        int drumTime() {
            return drumStep < 0 ? 0 : time[drumStep];
        }
    }

    /** A station: its setup, what it is doing, and what it has done. */
    private static final class Station {
        int setup;
        int downUntil;
        int order = NONE;
        int lastProduct = NONE;
        /** Kept along, so that an idle tick need not look through all orders. */
        int waiting;
        int busy;
        int setupsDone;
        int reds;

        void clear() {
            setup = 0;
            downUntil = 0;
            order = NONE;
            lastProduct = NONE;
            waiting = 0;
            busy = 0;
            setupsDone = 0;
            reds = 0;
        }

        void copyFrom(Station other) {
            setup = other.setup;
            downUntil = other.downUntil;
            order = other.order;
            lastProduct = other.lastProduct;
            waiting = other.waiting;
            busy = other.busy;
            setupsDone = other.setupsDone;
            reds = other.reds;
        }

        boolean isDown(int now) {
            return now < downUntil;
        }

        boolean isWorking(int now) {
            return order != NONE && !isDown(now);
        }

        boolean isIdle(int now) {
            return order == NONE && !isDown(now);
        }
    }

    /** An order. NONE stands in each time, step or station that it does not have yet. */
    private static final class Order {
        int product;
        int quantity;
        int due;
        int drumWork;
        boolean isExpedited;
        int state;
        int step;
        /** More than 0 exactly while a station has begun the present step. */
        int remaining;
        int arrivedAt;
        int releasedAt;
        int keptReleaseTime;
        int drumBegunAt;
        int finishedAt;
        int firstRed;

        void clear() {
            isExpedited = false;
            state = NOT_RELEASED;
            step = NONE;
            remaining = 0;
            arrivedAt = NONE;
            releasedAt = NONE;
            keptReleaseTime = NO_TIME;
            drumBegunAt = NONE;
            finishedAt = NONE;
            firstRed = NONE;
        }

        void copyFrom(Order other) {
            product = other.product;
            quantity = other.quantity;
            due = other.due;
            drumWork = other.drumWork;
            isExpedited = other.isExpedited;
            state = other.state;
            step = other.step;
            remaining = other.remaining;
            arrivedAt = other.arrivedAt;
            releasedAt = other.releasedAt;
            keptReleaseTime = other.keptReleaseTime;
            drumBegunAt = other.drumBegunAt;
            finishedAt = other.finishedAt;
            firstRed = other.firstRed;
        }

        boolean isOpen() {
            return state == NOT_RELEASED || state == RELEASED;
        }

        int latenessAt(int time) {
            return time > due ? time - due : 0;
        }

        int flowUntil(int now) {
            if (releasedAt == NONE) {
                return NONE;
            }
            return (state == FINISHED ? finishedAt : now) - releasedAt;
        }
    }

    /** The schedule of the drum (section 2), made anew whenever it is asked for. */
    private static final class Schedule {
        final int[] order = new int[MAX_ORDERS];
        final int[] start = new int[MAX_ORDERS];
        int count;

        void make(Shop shop) {
            collectByDue(shop);
            planBackward(shop);
            planForward(shop, shop.drumFreeAt());
        }

        private void collectByDue(Shop shop) {
            count = 0;
            for (int i = 0; i < shop.orderCount; i++) {
                Order o = shop.orders[i];
                if (o.state != CANCELLED && o.drumBegunAt == NONE) {
                    int place = count;
                    while (place > 0 && shop.orders[order[place - 1]].due > o.due) {
                        order[place] = order[place - 1];
                        place--;
                    }
                    order[place] = i;
                    count++;
                }
            }
        }

        private void planBackward(Shop shop) {
            for (int i = count - 1; i >= 0; i--) {
                Order o = shop.orders[order[i]];
                int end = o.due - shop.shipping;
                if (i + 1 < count && start[i + 1] < end) {
                    end = start[i + 1];
                }
                start[i] = end - o.drumWork;
            }
        }

        private void planForward(Shop shop, int drumFree) {
            int earliest = drumFree;
            for (int i = 0; i < count; i++) {
                if (start[i] < earliest) {
                    start[i] = earliest;
                }
                earliest = start[i] + shop.orders[order[i]].drumWork;
            }
        }

        /** The first time from which on work overlaps no order; the starts ascend. */
        int firstFit(Shop shop, int work, int from) {
            int time = from;
            for (int i = 0; i < count; i++) {
                if (time + work <= start[i]) {
                    return time;
                }
                time = Math.max(time, start[i] + shop.orders[order[i]].drumWork);
            }
            return time;
        }
    }

    /** A shop: what was described, and all that has happened in it. */
    private static final class Shop {
        final Station[] stations = new Station[MAX_STATIONS];
        final Product[] products = new Product[MAX_PRODUCTS];
        final Order[] orders = new Order[MAX_ORDERS];
        /** Holds no state: whoever wants to read it makes it first. */
        final Schedule schedule = new Schedule();
        int stationCount;
        int productCount;
        int orderCount;
        int drum;
        int buffer;
        int shipping;
        int rope;
        int rule;
        int auto;
        int now;
        int starved;

        Shop() {
            for (int i = 0; i < stations.length; i++) {
                stations[i] = new Station();
            }
            for (int i = 0; i < products.length; i++) {
                products[i] = new Product();
            }
            for (int i = 0; i < orders.length; i++) {
                orders[i] = new Order();
            }
            clear();
        }

        /** Makes it the shop of the text "stations 1 0". */
        void clear() {
            stationCount = 1;
            productCount = 0;
            orderCount = 0;
            drum = 0;
            buffer = 20;
            shipping = 20;
            rope = 100;
            rule = 0;
            auto = 0;
            now = 0;
            starved = 0;
            for (int i = 0; i < stations.length; i++) {
                stations[i].clear();
            }
        }

        void copyFrom(Shop other) {
            stationCount = other.stationCount;
            productCount = other.productCount;
            orderCount = other.orderCount;
            drum = other.drum;
            buffer = other.buffer;
            shipping = other.shipping;
            rope = other.rope;
            rule = other.rule;
            auto = other.auto;
            now = other.now;
            starved = other.starved;
            for (int i = 0; i < stationCount; i++) {
                stations[i].copyFrom(other.stations[i]);
            }
            for (int i = 0; i < productCount; i++) {
                products[i].copyFrom(other.products[i]);
            }
            for (int i = 0; i < orderCount; i++) {
                orders[i].copyFrom(other.orders[i]);
            }
        }

        /** Adds an order; the caller has looked that there is room for it. */
        int enter(int product, int quantity, int due) {
            int number = orderCount;
            Order o = orders[number];
            o.clear();
            o.product = product;
            o.quantity = quantity;
            o.due = due;
            o.drumWork = products[product].drumTime() * quantity;
            orderCount++;
            return number;
        }

        int countInState(int state) {
            int count = 0;
            for (int i = 0; i < orderCount; i++) {
                if (orders[i].state == state) {
                    count++;
                }
            }
            return count;
        }

        int greatestWorkNotReleased() {
            int greatest = 0;
            for (int i = 0; i < orderCount; i++) {
                if (orders[i].state == NOT_RELEASED) {
                    greatest = Math.max(greatest, orders[i].drumWork);
                }
            }
            return greatest;
        }

        /** The earliest possible time of the first order in the schedule. */
        int drumFreeAt() {
            int order = stations[drum].order;
            return order == NONE ? now : now + orders[order].remaining;
        }

        /** NO_TIME for an order that is not in the schedule. */
        int scheduledStart(int order) {
            schedule.make(this);
            for (int i = 0; i < schedule.count; i++) {
                if (schedule.order[i] == order) {
                    return schedule.start[i];
                }
            }
            return NO_TIME;
        }

        boolean hasToPassDrum(Order o) {
            return o.state == NOT_RELEASED
                    || o.state == RELEASED && o.step <= products[o.product].drumStep;
        }

        int releasedWork() {
            int sum = 0;
            for (int i = 0; i < orderCount; i++) {
                Order o = orders[i];
                if (o.state == RELEASED && hasToPassDrum(o)) {
                    sum += o.drumWork;
                }
            }
            return sum;
        }

        int penetrationOf(Order o) {
            if (o.state != RELEASED) {
                return 0;
            }
            boolean isShipping = o.drumBegunAt != NONE;
            int begin = isShipping ? o.due - shipping : o.keptReleaseTime;
            int length = isShipping ? shipping : buffer;
            if (now <= begin || length < 1) {
                return 0;
            }
            return 1000 * (now - begin) / length;
        }

        int zoneOf(Order o) {
            if (o.state != RELEASED) {
                return NONE;
            }
            int thirds = 3 * penetrationOf(o) / 1000;
            return thirds < BLACK ? thirds : BLACK;
        }

        static boolean isRedOrBlack(int penetration) {
            return 3 * penetration >= 2000;
        }

        int stationOf(Order o) {
            return products[o.product].station[o.step];
        }

        int workOfStep(Order o) {
            return products[o.product].time[o.step] * o.quantity;
        }

        boolean waitsAt(Order o, int station) {
            return o.state == RELEASED && o.remaining == 0 && stationOf(o) == station;
        }

        int choiceAt(int station) {
            int best = NONE;
            int bestKey = 0;
            boolean isBestHurried = false;
            for (int i = 0; i < orderCount; i++) {
                Order o = orders[i];
                if (waitsAt(o, station)) {
                    int penetration = penetrationOf(o);
                    int key = keyByRule(o, penetration);
                    boolean isHurried = o.isExpedited || auto == 1 && isRedOrBlack(penetration);
                    boolean isBetter = isHurried == isBestHurried ? key < bestKey : isHurried;
                    if (best == NONE || isBetter) {
                        best = i;
                        bestKey = key;
                        isBestHurried = isHurried;
                    }
                }
            }
            return best;
        }

        /** What the rule looks at, turned so that the smallest is chosen. */
        private int keyByRule(Order o, int penetration) {
            switch (rule) {
                case 1:
                    return -penetration;
                case 2:
                    return o.due;
                case 3:
                    return workOfStep(o);
                default:
                    return o.arrivedAt;
            }
        }

        int workAheadOf(int station) {
            int sum = 0;
            for (int i = 0; i < orderCount; i++) {
                if (orders[i].isOpen()) {
                    sum += workAheadOf(orders[i], station);
                }
            }
            return sum;
        }

        private int workAheadOf(Order o, int station) {
            Product p = products[o.product];
            int sum = 0;
            for (int k = Math.max(o.step, 0); k < p.steps; k++) {
                if (p.station[k] == station) {
                    boolean isBegun = k == o.step && o.remaining > 0;
                    sum += isBegun ? o.remaining : p.time[k] * o.quantity;
                }
            }
            return sum;
        }

        int tardinessIfEndedNow() {
            int sum = 0;
            for (int i = 0; i < orderCount; i++) {
                Order o = orders[i];
                if (o.state != CANCELLED) {
                    sum += o.latenessAt(o.state == FINISHED ? o.finishedAt : now);
                }
            }
            return sum;
        }

        /** Lets ticks pass as section 4 tells; those in which nothing can change go in one step. */
        void pass(int ticks) {
            int left = ticks;
            while (left > 0) {
                int quiet = quietTicks(left);
                if (quiet == 0) {
                    releaseOrders();
                    beginSteps();
                }
                int passed = Math.max(quiet, 1);
                work(passed);
                finishSteps();
                markReds();
                left -= passed;
            }
        }

        /**
         * How many of the next ticks, at most limit, surely release, begin and finish nothing, with
         * each station down in all of them or in none. Too small an answer costs time alone.
         */
        private int quietTicks(int limit) {
            int quiet = limit;
            for (int s = 0; s < stationCount; s++) {
                Station station = stations[s];
                if (station.isDown(now)) {
                    quiet = Math.min(quiet, station.downUntil - now);
                } else if (station.order != NONE) {
                    quiet = Math.min(quiet, orders[station.order].remaining - 1);
                } else if (station.waiting > 0) {
                    return 0;
                }
            }
            return quiet > 0 ? Math.min(quiet, ticksWithoutRelease(quiet)) : 0;
        }

        /**
         * The first order that is not released bars the others, as their starts are later. While no
         * step ends, its release time moves later only, once come it stays come, and the released
         * work stays what it is.
         */
        private int ticksWithoutRelease(int limit) {
            if (countInState(NOT_RELEASED) == 0) {
                return limit;
            }
            schedule.make(this);
            for (int i = 0; i < schedule.count; i++) {
                Order o = orders[schedule.order[i]];
                if (o.state == NOT_RELEASED) {
                    int wait = schedule.start[i] - buffer - now;
                    if (wait > 0) {
                        return wait;
                    }
                    return releasedWork() + o.drumWork <= rope ? 0 : limit;
                }
            }
            return limit;
        }

        private void releaseOrders() {
            if (countInState(NOT_RELEASED) == 0) {
                return;
            }
            schedule.make(this);
            int released = releasedWork();
            for (int i = 0; i < schedule.count; i++) {
                Order o = orders[schedule.order[i]];
                int releaseTime = schedule.start[i] - buffer;
                if (o.state == NOT_RELEASED && now >= releaseTime) {
                    released += o.drumWork;
                    if (released > rope) {
                        return;
                    }
                    o.state = RELEASED;
                    o.releasedAt = now;
                    o.keptReleaseTime = releaseTime;
                    arrive(o, 0);
                }
            }
        }

        private void arrive(Order o, int step) {
            o.step = step;
            o.arrivedAt = now;
            stations[stationOf(o)].waiting++;
        }

        private void beginSteps() {
            for (int s = 0; s < stationCount; s++) {
                if (stations[s].isIdle(now) && stations[s].waiting > 0) {
                    int choice = choiceAt(s);
                    if (choice != NONE) {
                        beginStep(s, choice);
                    }
                }
            }
        }

        private void beginStep(int s, int choice) {
            Station station = stations[s];
            Order o = orders[choice];
            o.remaining = workOfStep(o);
            if (o.product != station.lastProduct) {
                o.remaining += station.setup;
                station.setupsDone++;
                station.lastProduct = o.product;
            }
            if (s == drum) {
                o.drumBegunAt = now;
            }
            station.order = choice;
            station.waiting--;
        }

        private void work(int ticks) {
            if (isStarved()) {
                starved += ticks;
            }
            for (int s = 0; s < stationCount; s++) {
                Station station = stations[s];
                if (station.isWorking(now)) {
                    orders[station.order].remaining -= ticks;
                    station.busy += ticks;
                }
            }
            now += ticks;
        }

        private boolean isStarved() {
            if (!stations[drum].isIdle(now)) {
                return false;
            }
            for (int i = 0; i < orderCount; i++) {
                if (hasToPassDrum(orders[i])) {
                    return true;
                }
            }
            return false;
        }

        private void finishSteps() {
            for (int s = 0; s < stationCount; s++) {
                Station station = stations[s];
                if (station.order != NONE && orders[station.order].remaining == 0) {
                    leaveStation(orders[station.order]);
                    station.order = NONE;
                }
            }
        }

        private void leaveStation(Order o) {
            if (o.step + 1 < products[o.product].steps) {
                arrive(o, o.step + 1);
            } else {
                o.step++;
                o.state = FINISHED;
                o.finishedAt = now;
            }
        }

        private void markReds() {
            for (int i = 0; i < orderCount; i++) {
                Order o = orders[i];
                if (o.state == RELEASED && o.firstRed == NONE && isRedOrBlack(penetrationOf(o))) {
                    o.firstRed = stationOf(o);
                    stations[o.firstRed].reds++;
                }
            }
        }
    }

    /** Holds the input buffer and reads it as a description (section 1). */
    private static final class Reader {
        final int[] text = new int[MAX_TEXT];
        int length;
        int error;
        int errorPosition;
        int errorStatement = NONE;
        /** Where it stands: everything before this byte has been read. */
        private int at;
        private int statement;
        private final int[] statementOfOrder = new int[MAX_ORDERS];

        int append(int value) {
            if (length >= text.length) {
                return FULL;
            }
            text[length] = value;
            length++;
            return length;
        }

        /** Reads the text into a cleared shop and empties the buffer. */
        void readInto(Shop shop) {
            rewind();
            readStatement(shop);
            for (int i = 0; i < length && error == 0 && at < length; i++) {
                if (text[at] == ';') {
                    at++;
                    statement++;
                    readStatement(shop);
                } else {
                    fail(1, at);
                }
            }
            if (error == 0) {
                checkDrumWorks(shop);
            }
            length = 0;
        }

        private void rewind() {
            error = 0;
            errorPosition = 0;
            errorStatement = NONE;
            at = 0;
            statement = 0;
        }

        /** Reads a statement and the spaces behind it. */
        private void readStatement(Shop shop) {
            skipSpaces();
            int first = at;
            while (at < length && isLetter()) {
                at++;
            }
            boolean isFirst = statement == 0;
            if (isFirst != isWord(first, "stations")) {
                fail(1, first);
            } else if (isFirst) {
                readStations(shop);
            } else if (isWord(first, "product")) {
                readProduct(shop, first);
            } else if (isWord(first, "order")) {
                readOrder(shop, first);
            } else {
                readSetting(shop, first);
            }
            skipSpaces();
        }

        private void readStations(Shop shop) {
            int count = readNumber(1, MAX_STATIONS);
            int drum = readNumber(0, count - 1);
            if (error == 0) {
                shop.stationCount = count;
                shop.drum = drum;
            }
        }

        private void readSetting(Shop shop, int first) {
            if (isWord(first, "buffers")) {
                shop.buffer = readNumber(1, 500);
                shop.shipping = readNumber(1, 500);
            } else if (isWord(first, "rope")) {
                shop.rope = readNumber(1, MAX_ROPE);
            } else if (isWord(first, "rule")) {
                shop.rule = readNumber(0, MAX_RULE);
            } else if (isWord(first, "auto")) {
                shop.auto = readNumber(0, 1);
            } else if (isWord(first, "setup")) {
                readSetup(shop);
            } else {
                fail(1, first);
            }
        }

        private void readSetup(Shop shop) {
            int station = readNumber(0, shop.stationCount - 1);
            int ticks = readNumber(0, 50);
            if (error == 0) {
                shop.stations[station].setup = ticks;
            }
        }

        private void readProduct(Shop shop, int first) {
            if (shop.productCount >= MAX_PRODUCTS) {
                fail(4, first);
                return;
            }
            Product p = shop.products[shop.productCount];
            p.clear();
            // a seventh step is read as far as its error
            for (int k = 0; k <= MAX_STEPS; k++) {
                skipSpaces();
                if (error != 0 || k > 0 && !isDigit()) {
                    break;
                }
                readStep(shop, p);
            }
            if (p.drumStep == NONE) {
                fail(3, at);
            }
            shop.productCount++;
        }

        private void readStep(Shop shop, Product p) {
            int first = at;
            int station = readNumber(0, shop.stationCount - 1);
            if (station == shop.drum && p.drumStep != NONE) {
                fail(3, first);
            }
            if (p.steps >= MAX_STEPS) {
                fail(4, first);
            }
            int time = readNumber(1, 20);
            if (error == 0) {
                if (station == shop.drum) {
                    p.drumStep = p.steps;
                }
                p.station[p.steps] = station;
                p.time[p.steps] = time;
                p.steps++;
            }
        }

        private void readOrder(Shop shop, int first) {
            if (shop.orderCount >= MAX_ORDERS) {
                fail(4, first);
                return;
            }
            int product = readNumber(0, shop.productCount - 1);
            int quantity = readNumber(1, MAX_QUANTITY);
            int due = readNumber(0, MAX_TIME);
            if (error == 0) {
                statementOfOrder[shop.orderCount] = statement;
                shop.enter(product, quantity, due);
            }
        }

        private void checkDrumWorks(Shop shop) {
            for (int i = 0; i < shop.orderCount; i++) {
                if (shop.orders[i].drumWork > shop.rope) {
                    statement = statementOfOrder[i];
                    fail(5, length);
                    return;
                }
            }
        }

        /** Reads a number in its range; NONE, without reading on, once there is an error. */
        private int readNumber(int low, int high) {
            if (error != 0) {
                return NONE;
            }
            skipSpaces();
            int first = at;
            int value = 0;
            while (at < length && isDigit()) {
                // beyond every range: more digits must not wrap it round into one
                value = Math.min(10 * value + text[at] - '0', 1000000);
                at++;
            }
            if (at == first) {
                fail(1, first);
                return NONE;
            }
            if (value < low || value > high) {
                fail(2, first);
                return NONE;
            }
            return value;
        }

        /** Keeps the first error alone. */
        private void fail(int kind, int position) {
            if (error == 0) {
                error = kind;
                errorPosition = position;
                errorStatement = statement;
            }
        }

        private void skipSpaces() {
            while (at < length && text[at] == ' ') {
                at++;
            }
        }

        private boolean isDigit() {
            return at < length && text[at] >= '0' && text[at] <= '9';
        }

        private boolean isLetter() {
            return at < length && text[at] >= 'a' && text[at] <= 'z';
        }

        /** Whether what was read from first on is this word. */
        private boolean isWord(int first, String word) {
            if (at - first != word.length()) {
                return false;
            }
            for (int i = 0; i < word.length(); i++) {
                if (text[first + i] != word.charAt(i)) {
                    return false;
                }
            }
            return true;
        }
    }
}
