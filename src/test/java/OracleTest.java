import java.lang.reflect.InvocationTargetException;
import java.lang.reflect.Method;
import java.lang.reflect.Modifier;
import java.util.ArrayList;
import java.util.Arrays;
import java.util.Comparator;
import java.util.List;
import java.util.Random;

/**
 * Random runs of calls: DrumRope and PlainShop answer the same calls, and after some of them, errors
 * and exceptions among them, every question that can be asked. The seeds are fixed.
 */
public final class OracleTest {
    private static final int RUNS = 700;
    private static final List<String> AHEAD = List.of("finishIfAdded", "finishOf", "tardinessAhead",
            "bestRule", "neededRope", "bestExpedite");
    private static final List<String> CHANGING = List.of("appendByte", "load", "advance", "addOrder",
            "cancel", "setDue", "expedite", "setRule", "setRope", "stop", "saveSnapshot",
            "restoreSnapshot");

    private final Random random;
    private final DrumRope subject = new DrumRope();
    private final PlainShop oracle = new PlainShop();
    private final List<String> calls = new ArrayList<>();
    private String wrong = null;

    private OracleTest(long seed) {
        random = new Random(seed);
    }

    public static void main(String[] args) throws Exception {
        int runs = args.length > 0 ? Integer.parseInt(args[0]) : RUNS;
        long first = args.length > 1 ? Long.parseLong(args[1]) : 0;
        int wrongRuns = 0;
        for (long seed = first; seed < first + runs; seed++) {
            OracleTest test = new OracleTest(seed);
            test.run();
            if (test.wrong != null && ++wrongRuns <= 3) {
                System.out.println("seed " + seed + ": " + test.wrong);
                test.calls.forEach(c -> System.out.println("  " + c));
            }
        }
        if (wrongRuns > 0) {
            System.out.println(wrongRuns + " runs are wrong");
            System.exit(1);
        }
    }

    private static List<Method> face() {
        Method[] methods = PlainShop.class.getDeclaredMethods();
        Arrays.sort(methods, Comparator.comparing(Method::getName));
        List<Method> list = new ArrayList<>();
        for (Method m : methods) {
            if (Modifier.isPublic(m.getModifiers())) {
                list.add(m);
            }
        }
        return list;
    }

    private static final List<Method> FACE = face();

    private void run() throws Exception {
        type(Texts.random(random));
        call("load");
        int length = 5 + random.nextInt(60);
        for (int i = 0; i < length && wrong == null; i++) {
            int kind = random.nextInt(100);
            if (kind < 4) {
                type(Texts.random(random));
                call("load");
            } else if (kind < 30) {
                call("advance", random.nextInt(8) == 0 ? random.nextInt(502) : random.nextInt(25));
            } else if (kind < 45) {
                call("addOrder", random.nextInt(7), 1 + random.nextInt(random.nextBoolean() ? 50 : 9), due());
            } else if (kind < 70) {
                callAny(CHANGING.get(2 + random.nextInt(CHANGING.size() - 2)));
            } else if (kind < 72) {
                callAny(AHEAD.get(random.nextInt(AHEAD.size())));
            } else {
                Method m = FACE.get(random.nextInt(FACE.size()));
                if (!AHEAD.contains(m.getName()) && !m.getName().equals("load")) {
                    callAny(m.getName());
                }
            }
            if (random.nextInt(4) == 0) {
                askAll();
            }
        }
        askAll();
    }

    private int due() {
        int span = random.nextInt(3);
        int due = span == 0 ? random.nextInt(60) : span == 1 ? random.nextInt(400) : random.nextInt(3000);
        return Math.min(30000, oracle.now() + due - 20);
    }

    private void type(String text) throws Exception {
        for (int i = 0; i < text.length(); i++) {
            quietly("appendByte", (int) text.charAt(i));
        }
        calls.add("typed: " + text);
    }

    /** An argument mostly inside its range, at times on its edge or far outside. */
    private int argument(String method, int place) {
        switch (random.nextInt(24)) {
            case 0: return -1;
            case 1: return Integer.MAX_VALUE;
            case 2: return Integer.MIN_VALUE;
            case 3: return random.nextInt(60000) - 10000;
            default: break;
        }
        if (method.equals("setDue") && place == 1 || method.equals("finishIfAdded") && place == 2) {
            return due();
        }
        if (method.equals("setRope")) {
            return random.nextInt(3) == 0 ? random.nextInt(5002) : random.nextInt(300);
        }
        if (method.equals("stop") && place == 1) {
            return random.nextInt(5) == 0 ? random.nextInt(502) : random.nextInt(30);
        }
        if (method.equals("appendByte")) {
            return random.nextInt(257);
        }
        if (place == 1) {
            return random.nextInt(method.equals("stepAt") ? 7 : 52);
        }
        int orders = Math.max(1, oracle.orderCount());
        return random.nextInt(random.nextBoolean() ? orders + 1 : 3);
    }

    private void callAny(String name) throws Exception {
        for (Method m : FACE) {
            if (m.getName().equals(name)) {
                Object[] args = new Object[m.getParameterCount()];
                for (int i = 0; i < args.length; i++) {
                    args[i] = m.getParameterTypes()[i] == boolean.class
                            ? (Object) random.nextBoolean() : (Object) argument(name, i);
                }
                call(name, args);
            }
        }
    }

    private void call(String name, Object... args) throws Exception {
        calls.add(name + Arrays.toString(args) + " -> " + quietly(name, args));
    }

    private Object quietly(String name, Object... args) throws Exception {
        Class<?>[] types = new Class<?>[args.length];
        for (int i = 0; i < args.length; i++) {
            types[i] = args[i] instanceof Boolean ? boolean.class : int.class;
        }
        Object got = answer(subject, DrumRope.class.getMethod(name, types), args);
        Object want = answer(oracle, PlainShop.class.getMethod(name, types), args);
        if (!got.equals(want) && wrong == null) {
            wrong = name + Arrays.toString(args) + " answered " + got + ", due is " + want;
        }
        return want;
    }

    private static Object answer(Object on, Method m, Object[] args) throws Exception {
        try {
            return m.invoke(on, args);
        } catch (InvocationTargetException e) {
            if (on instanceof PlainShop && !(e.getCause() instanceof IndexOutOfBoundsException)
                    && !(e.getCause() instanceof IllegalArgumentException)) {
                throw e;
            }
            // the exact class: what the machine throws is of a class below these
            return "throws " + e.getCause().getClass().getName();
        }
    }

    /** Everything that can be asked without a prediction, and one prediction now and then. */
    private void askAll() throws Exception {
        for (Method m : FACE) {
            String name = m.getName();
            if (CHANGING.contains(name) || AHEAD.contains(name)) {
                continue;
            }
            if (m.getParameterCount() == 0) {
                quietly(name);
            } else if (m.getParameterCount() == 1) {
                for (int i = 0; i <= 24; i++) {
                    quietly(name, i);
                }
            } else if (m.getParameterCount() == 2) {
                for (int i = 0; i <= 6; i++) {
                    quietly(name, i, 1 + random.nextInt(50));
                }
            } else {
                for (int i = 0; i <= 6; i++) {
                    for (int k = 0; k <= 6; k++) {
                        quietly(name, i, k, random.nextInt(2));
                    }
                }
            }
        }
        if (random.nextInt(30) == 0) {
            callAny(AHEAD.get(random.nextInt(AHEAD.size())));
        }
    }
}
