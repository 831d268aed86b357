import java.util.ArrayList;
import java.util.Comparator;
import java.util.HashMap;
import java.util.List;
import java.util.Map;

/**
 * The document written down a second time, as literally and with as little thought of speed as
 * possible: every tick is simulated, every number counted anew from what has happened. OracleTest
 * lets it answer the same calls as DrumRope.
 */
final class PlainShop {
    static final class Order {
        int product;
        int quantity;
        int due;
        boolean expedited;
        boolean cancelled;
        Integer released;
        Integer keptRelease;
        Integer finished;
        Integer red;
        /** When each step was begun and ended, and when the order arrived there. */
        Integer[] arrived = new Integer[7];
        Integer[] begun = new Integer[7];
        Integer[] ended = new Integer[7];
        int left;

        Order copy() {
            Order o = new Order();
            o.product = product;
            o.quantity = quantity;
            o.due = due;
            o.expedited = expedited;
            o.cancelled = cancelled;
            o.released = released;
            o.keptRelease = keptRelease;
            o.finished = finished;
            o.red = red;
            o.arrived = arrived.clone();
            o.begun = begun.clone();
            o.ended = ended.clone();
            o.left = left;
            return o;
        }

        int state() {
            return cancelled ? 3 : finished != null ? 2 : released != null ? 1 : 0;
        }
    }

    /** All that a snapshot holds. */
    static final class World {
        int stations = 1;
        int drum = 0;
        int buffer = 20;
        int shipping = 20;
        int rope = 100;
        int rule = 0;
        int auto = 0;
        int now = 0;
        int starved = 0;
        int[] setup = new int[6];
        int[] down = new int[6];
        int[] busy = new int[6];
        int[] setups = new int[6];
        Integer[] lastProduct = new Integer[6];
        List<int[]> products = new ArrayList<>();
        List<Order> orders = new ArrayList<>();

        World copy() {
            World w = new World();
            w.stations = stations;
            w.drum = drum;
            w.buffer = buffer;
            w.shipping = shipping;
            w.rope = rope;
            w.rule = rule;
            w.auto = auto;
            w.now = now;
            w.starved = starved;
            w.setup = setup.clone();
            w.down = down.clone();
            w.busy = busy.clone();
            w.setups = setups.clone();
            w.lastProduct = lastProduct.clone();
            w.products = new ArrayList<>(products);
            for (Order o : orders) {
                w.orders.add(o.copy());
            }
            return w;
        }

        int steps(int product) {
            return products.get(product).length / 2;
        }

        int station(int product, int step) {
            return products.get(product)[2 * step];
        }

        int time(int product, int step) {
            return products.get(product)[2 * step + 1];
        }

        int drumStep(int product) {
            for (int k = 0; k < steps(product); k++) {
                if (station(product, k) == drum) {
                    return k;
                }
            }
            throw new AssertionError("a product without the drum");
        }

        int drumWork(int product, int quantity) {
            return time(product, drumStep(product)) * quantity;
        }

        int drumWork(Order o) {
            return drumWork(o.product, o.quantity);
        }

        Integer drumBegun(Order o) {
            return o.begun[drumStep(o.product)];
        }

        boolean drumEnded(Order o) {
            return o.ended[drumStep(o.product)] != null;
        }

        /** The step of a released order: the first that has not ended. */
        int step(Order o) {
            int k = 0;
            while (k < steps(o.product) && o.ended[k] != null) {
                k++;
            }
            return k;
        }

        boolean worked(Order o) {
            return o.state() == 1 && o.begun[step(o)] != null;
        }

        boolean isDown(int s) {
            return now < down[s];
        }

        Integer working(int s) {
            for (int i = 0; i < orders.size(); i++) {
                Order o = orders.get(i);
                if (worked(o) && station(o.product, step(o)) == s) {
                    return i;
                }
            }
            return null;
        }

        List<Integer> waiting(int s) {
            List<Integer> list = new ArrayList<>();
            for (int i = 0; i < orders.size(); i++) {
                Order o = orders.get(i);
                if (o.state() == 1 && !worked(o) && station(o.product, step(o)) == s) {
                    list.add(i);
                }
            }
            return list;
        }

        List<Integer> scheduled() {
            List<Integer> list = new ArrayList<>();
            for (int i = 0; i < orders.size(); i++) {
                Order o = orders.get(i);
                if (o.state() <= 1 && drumBegun(o) == null) {
                    list.add(i);
                }
            }
            list.sort(Comparator.comparingInt((Integer i) -> orders.get(i).due)
                    .thenComparingInt(i -> i));
            return list;
        }

        int earliest() {
            Integer i = working(drum);
            return now + (i == null ? 0 : orders.get(i).left);
        }

        /** The start of each scheduled order. */
        Map<Integer, Integer> starts() {
            List<Integer> list = scheduled();
            Map<Integer, Integer> starts = new HashMap<>();
            for (int k = list.size() - 1; k >= 0; k--) {
                Order o = orders.get(list.get(k));
                int end = o.due - shipping;
                if (k < list.size() - 1) {
                    end = Math.min(end, starts.get(list.get(k + 1)));
                }
                starts.put(list.get(k), end - drumWork(o));
            }
            int earliest = earliest();
            for (int i : list) {
                starts.put(i, Math.max(starts.get(i), earliest));
                earliest = starts.get(i) + drumWork(orders.get(i));
            }
            return starts;
        }

        int ropeLoad() {
            int sum = 0;
            for (Order o : orders) {
                if (o.state() == 1 && !drumEnded(o)) {
                    sum += drumWork(o);
                }
            }
            return sum;
        }

        int penetration(Order o) {
            if (o.state() != 1) {
                return 0;
            }
            int p = drumBegun(o) == null
                    ? 1000 * (now - o.keptRelease) / buffer
                    : 1000 * (now - (o.due - shipping)) / shipping;
            return Math.max(p, 0);
        }

        int zone(Order o) {
            if (o.state() != 1) {
                return -1;
            }
            int p = penetration(o);
            return 3 * p < 1000 ? 0 : 3 * p < 2000 ? 1 : 3 * p < 3000 ? 2 : 3;
        }

        int choice(int s) {
            List<Integer> list = waiting(s);
            List<Integer> hurried = new ArrayList<>();
            for (int i : list) {
                Order o = orders.get(i);
                if (o.expedited || auto == 1 && zone(o) >= 2) {
                    hurried.add(i);
                }
            }
            if (!hurried.isEmpty()) {
                list = hurried;
            }
            int best = -1;
            for (int i : list) {
                if (best == -1 || before(orders.get(i), orders.get(best))) {
                    best = i;
                }
            }
            return best;
        }

        boolean before(Order a, Order b) {
            if (rule == 0) {
                return a.arrived[step(a)] < b.arrived[step(b)];
            }
            if (rule == 1) {
                return penetration(a) > penetration(b);
            }
            if (rule == 2) {
                return a.due < b.due;
            }
            return time(a.product, step(a)) * a.quantity < time(b.product, step(b)) * b.quantity;
        }

        void tick() {
            Map<Integer, Integer> starts = starts();
            for (int i : scheduled()) {
                Order o = orders.get(i);
                if (o.state() == 0 && now >= starts.get(i) - buffer) {
                    if (ropeLoad() + drumWork(o) > rope) {
                        break;
                    }
                    o.released = now;
                    o.keptRelease = starts.get(i) - buffer;
                    o.arrived[0] = now;
                }
            }
            for (int s = 0; s < stations; s++) {
                if (working(s) == null && !isDown(s) && choice(s) != -1) {
                    Order o = orders.get(choice(s));
                    int k = step(o);
                    o.left = time(o.product, k) * o.quantity;
                    if (lastProduct[s] == null || lastProduct[s] != o.product) {
                        o.left += setup[s];
                        setups[s]++;
                    }
                    lastProduct[s] = o.product;
                    o.begun[k] = now;
                }
            }
            if (!isDown(drum) && working(drum) == null) {
                boolean some = false;
                for (Order o : orders) {
                    some |= !o.cancelled && !drumEnded(o);
                }
                starved += some ? 1 : 0;
            }
            boolean[] wasDown = new boolean[6];
            for (int s = 0; s < stations; s++) {
                wasDown[s] = isDown(s);
            }
            now++;
            for (int s = 0; s < stations; s++) {
                if (working(s) != null && !wasDown[s]) {
                    orders.get(working(s)).left--;
                    busy[s]++;
                }
            }
            for (int s = 0; s < stations; s++) {
                if (working(s) != null && orders.get(working(s)).left == 0) {
                    Order o = orders.get(working(s));
                    o.ended[step(o)] = now;
                    if (step(o) == steps(o.product)) {
                        o.finished = now;
                    } else {
                        o.arrived[step(o)] = now;
                    }
                }
            }
            for (Order o : orders) {
                if (o.state() == 1 && zone(o) >= 2 && o.red == null) {
                    o.red = station(o.product, step(o));
                }
            }
        }

        boolean allDone() {
            for (Order o : orders) {
                if (o.state() <= 1) {
                    return false;
                }
            }
            return true;
        }

        int tardinessAhead() {
            for (int t = 0; t < 2000 && !allDone(); t++) {
                tick();
            }
            int sum = 0;
            for (Order o : orders) {
                if (!o.cancelled) {
                    sum += Math.max(0, (o.finished == null ? now : o.finished) - o.due);
                }
            }
            return sum;
        }
    }

    private World w = new World();
    private final World[] saved = new World[2];
    private final StringBuilder text = new StringBuilder();
    private int error = 0;
    private int errorStatement = -1;

    private static void index(int i, int size) {
        if (i < 0 || i >= size) {
            throw new IndexOutOfBoundsException();
        }
    }

    private static void range(int value, int low, int high) {
        if (value < low || value > high) {
            throw new IllegalArgumentException();
        }
    }

    private Order order(int i) {
        index(i, w.orders.size());
        return w.orders.get(i);
    }

    public int appendByte(int value) {
        range(value, 0, 255);
        if (text.length() == 700) {
            return -2;
        }
        text.append((char) value);
        return text.length();
    }

    public int load() {
        PlainReader r = new PlainReader(text.toString());
        text.setLength(0);
        error = r.error;
        errorStatement = r.errorStatement;
        if (error != 0) {
            return -100 - r.errorAt;
        }
        w = r.world;
        return w.orders.size();
    }

    public int loadError() {
        return error;
    }

    public int loadStatement() {
        return errorStatement;
    }

    public int stationCount() {
        return w.stations;
    }

    public int productCount() {
        return w.products.size();
    }

    public int orderCount() {
        return w.orders.size();
    }

    public int stepCount(int product) {
        index(product, w.products.size());
        return w.steps(product);
    }

    public int stepAt(int product, int step, int what) {
        index(product, w.products.size());
        range(what, 0, 1);
        if (step < 0 || step >= w.steps(product)) {
            return -1;
        }
        return what == 0 ? w.station(product, step) : w.time(product, step);
    }

    public int workOf(int product, int quantity) {
        index(product, w.products.size());
        range(quantity, 1, 50);
        int sum = 0;
        for (int k = 0; k < w.steps(product); k++) {
            sum += w.time(product, k) * quantity;
        }
        return sum;
    }

    public int drumWork(int product, int quantity) {
        index(product, w.products.size());
        range(quantity, 1, 50);
        return w.drumWork(product, quantity);
    }

    public int now() {
        return w.now;
    }

    public int advance(int ticks) {
        range(ticks, 1, 500);
        if (w.now + ticks > 30000) {
            return -2;
        }
        int finished = 0;
        for (Order o : w.orders) {
            finished -= o.state() == 2 ? 1 : 0;
        }
        for (int t = 0; t < ticks; t++) {
            w.tick();
        }
        for (Order o : w.orders) {
            finished += o.state() == 2 ? 1 : 0;
        }
        return finished;
    }

    private int refusal(int product, int quantity, int due) {
        index(product, w.products.size());
        range(quantity, 1, 50);
        range(due, 0, 30000);
        if (w.orders.size() == 24) {
            return -2;
        }
        return w.drumWork(product, quantity) > w.rope ? -4 : 0;
    }

    private static Order newOrder(int product, int quantity, int due) {
        Order o = new Order();
        o.product = product;
        o.quantity = quantity;
        o.due = due;
        return o;
    }

    public int addOrder(int product, int quantity, int due) {
        int refusal = refusal(product, quantity, due);
        if (refusal != 0) {
            return refusal;
        }
        w.orders.add(newOrder(product, quantity, due));
        return w.orders.size() - 1;
    }

    public int cancel(int order) {
        if (order(order).state() != 0) {
            return -3;
        }
        order(order).cancelled = true;
        int count = 0;
        for (Order o : w.orders) {
            count += o.state() == 0 ? 1 : 0;
        }
        return count;
    }

    public int setDue(int order, int due) {
        Order o = order(order);
        range(due, 0, 30000);
        if (o.state() >= 2) {
            return -3;
        }
        int before = o.due;
        o.due = due;
        return before;
    }

    public boolean expedite(int order, boolean is) {
        Order o = order(order);
        boolean before = o.expedited;
        o.expedited = is;
        return before;
    }

    public int setRule(int rule) {
        range(rule, 0, 3);
        int before = w.rule;
        w.rule = rule;
        return before;
    }

    public int setRope(int rope) {
        range(rope, 1, 5000);
        for (Order o : w.orders) {
            if (o.state() == 0 && w.drumWork(o) > rope) {
                return -4;
            }
        }
        int before = w.rope;
        w.rope = rope;
        return before;
    }

    public int rope() {
        return w.rope;
    }

    public int stop(int station, int ticks) {
        index(station, w.stations);
        range(ticks, 0, 500);
        w.down[station] = w.now + ticks;
        return w.down[station];
    }

    public int stateOf(int order) {
        return order(order).state();
    }

    public int productOf(int order) {
        return order(order).product;
    }

    public int quantityOf(int order) {
        return order(order).quantity;
    }

    public int dueOf(int order) {
        return order(order).due;
    }

    public int stepOf(int order) {
        Order o = order(order);
        return o.released == null ? -1 : w.step(o);
    }

    public boolean isWorkedOn(int order) {
        return w.worked(order(order));
    }

    public int remaining(int order) {
        Order o = order(order);
        return w.worked(o) ? o.left : 0;
    }

    public int releasedAt(int order) {
        Order o = order(order);
        return o.released == null ? -1 : o.released;
    }

    public int finishedAt(int order) {
        Order o = order(order);
        return o.finished == null ? -1 : o.finished;
    }

    public int plannedStart(int order) {
        Order o = order(order);
        if (o.cancelled) {
            return -1000000;
        }
        return w.drumBegun(o) != null ? w.drumBegun(o) : w.starts().get(order);
    }

    public int scheduleAt(int index) {
        List<Integer> list = w.scheduled();
        return index < 0 || index >= list.size() ? -1 : list.get(index);
    }

    public boolean isAtRisk(int order) {
        Order o = order(order);
        Integer start = w.starts().get(order);
        return start != null && start + w.drumWork(o) > o.due - w.shipping;
    }

    public int ropeLoad() {
        return w.ropeLoad();
    }

    public int releaseTime(int order) {
        Order o = order(order);
        if (o.cancelled) {
            return -1000000;
        }
        return o.released != null ? o.keptRelease : w.starts().get(order) - w.buffer;
    }

    public int penetration(int order) {
        return w.penetration(order(order));
    }

    public int zone(int order) {
        return w.zone(order(order));
    }

    public int inZone(int zone) {
        range(zone, 0, 3);
        int count = 0;
        for (Order o : w.orders) {
            count += w.zone(o) == zone ? 1 : 0;
        }
        return count;
    }

    public int redAt(int station) {
        index(station, w.stations);
        int count = 0;
        for (Order o : w.orders) {
            count += o.red != null && o.red == station ? 1 : 0;
        }
        return count;
    }

    public int worstStation() {
        int worst = -1;
        for (int s = 0; s < w.stations; s++) {
            if (redAt(s) > (worst == -1 ? 0 : redAt(worst))) {
                worst = s;
            }
        }
        return worst;
    }

    public int workingOn(int station) {
        index(station, w.stations);
        return w.working(station) == null ? -1 : w.working(station);
    }

    public int queueLength(int station) {
        index(station, w.stations);
        return w.waiting(station).size();
    }

    public int nextChoice(int station) {
        index(station, w.stations);
        return w.choice(station);
    }

    public int downUntil(int station) {
        index(station, w.stations);
        return w.isDown(station) ? w.down[station] : -1;
    }

    public int busyTicks(int station) {
        index(station, w.stations);
        return w.busy[station];
    }

    public int setups(int station) {
        index(station, w.stations);
        return w.setups[station];
    }

    public int starvedTicks() {
        return w.starved;
    }

    public int lateCount() {
        int count = 0;
        for (Order o : w.orders) {
            count += o.finished != null && o.finished > o.due ? 1 : 0;
        }
        return count;
    }

    public int tardiness() {
        int sum = 0;
        for (Order o : w.orders) {
            sum += o.finished == null ? 0 : Math.max(0, o.finished - o.due);
        }
        return sum;
    }

    public int quote(int product, int quantity) {
        index(product, w.products.size());
        range(quantity, 1, 50);
        int work = w.drumWork(product, quantity);
        if (work > w.rope) {
            return -4;
        }
        Map<Integer, Integer> starts = w.starts();
        for (int t = w.now + w.buffer;; t++) {
            boolean fits = t >= w.earliest();
            for (int i : starts.keySet()) {
                int end = starts.get(i) + w.drumWork(w.orders.get(i));
                fits &= t + work <= starts.get(i) || t >= end;
            }
            if (fits) {
                return t + work + w.shipping;
            }
        }
    }

    public int finishIfAdded(int product, int quantity, int due) {
        int refusal = refusal(product, quantity, due);
        if (refusal != 0) {
            return refusal;
        }
        World ahead = w.copy();
        ahead.orders.add(newOrder(product, quantity, due));
        return finishIn(ahead, ahead.orders.size() - 1);
    }

    public int finishOf(int order) {
        Order o = order(order);
        if (o.cancelled) {
            return -1;
        }
        return o.finished != null ? o.finished : finishIn(w.copy(), order);
    }

    private static int finishIn(World ahead, int order) {
        for (int t = 0; t < 2000; t++) {
            ahead.tick();
            if (ahead.orders.get(order).finished != null) {
                return ahead.orders.get(order).finished;
            }
        }
        return -1;
    }

    public int tardinessAhead(int rule) {
        range(rule, 0, 3);
        World ahead = w.copy();
        ahead.rule = rule;
        return ahead.tardinessAhead();
    }

    public int bestRule() {
        int[] sums = {tardinessAhead(0), tardinessAhead(1), tardinessAhead(2), tardinessAhead(3)};
        int best = 0;
        for (int r = 0; r < 4; r++) {
            best = sums[r] < sums[best] ? r : best;
        }
        return best;
    }

    private int tardinessByRope(int rope) {
        World ahead = w.copy();
        ahead.rope = rope;
        return ahead.tardinessAhead();
    }

    public int neededRope() {
        int widest = tardinessByRope(1000);
        for (int rope = 100;; rope += 100) {
            boolean isLeftOut = false;
            for (Order o : w.orders) {
                isLeftOut |= o.state() == 0 && w.drumWork(o) > rope;
            }
            if (!isLeftOut && tardinessByRope(rope) <= widest) {
                return rope;
            }
        }
    }

    public int firstRedAt(int order) {
        Order o = order(order);
        return o.red == null ? -1 : o.red;
    }

    public int flowTime(int order) {
        Order o = order(order);
        if (o.released == null) {
            return -1;
        }
        return (o.finished == null ? w.now : o.finished) - o.released;
    }

    public int meanFlow() {
        int sum = 0;
        int count = 0;
        for (Order o : w.orders) {
            if (o.finished != null) {
                sum += o.finished - o.released;
                count++;
            }
        }
        return count == 0 ? -1 : sum / count;
    }

    public int loadOf(int station) {
        index(station, w.stations);
        int sum = 0;
        for (Order o : w.orders) {
            if (o.state() <= 1) {
                for (int k = 0; k < w.steps(o.product); k++) {
                    if (w.station(o.product, k) == station) {
                        if (o.begun[k] == null) {
                            sum += w.time(o.product, k) * o.quantity;
                        } else if (o.ended[k] == null) {
                            sum += o.left;
                        }
                    }
                }
            }
        }
        return sum;
    }

    public int bottleneck() {
        int best = 0;
        for (int s = 1; s < w.stations; s++) {
            best = loadOf(s) > loadOf(best) ? s : best;
        }
        return best;
    }

    public int bestExpedite() {
        int least = w.copy().tardinessAhead();
        int best = -1;
        for (int i = 0; i < w.orders.size(); i++) {
            if (order(i).state() <= 1 && !order(i).expedited) {
                World ahead = w.copy();
                ahead.orders.get(i).expedited = true;
                int sum = ahead.tardinessAhead();
                if (sum < least) {
                    least = sum;
                    best = i;
                }
            }
        }
        return best;
    }

    public int saveSnapshot(int slot) {
        range(slot, 0, 1);
        saved[slot] = w.copy();
        return w.now;
    }

    public int restoreSnapshot(int slot) {
        range(slot, 0, 1);
        if (saved[slot] == null) {
            return -1;
        }
        w = saved[slot].copy();
        return w.now;
    }
}
