import java.lang.reflect.InvocationTargetException;
import java.lang.reflect.Method;
import java.lang.reflect.Modifier;
import java.util.ArrayList;
import java.util.Arrays;
import java.util.Comparator;
import java.util.List;
import java.util.Random;
import java.util.function.Supplier;

/**
 * No call throws, for any arguments in any state, also beyond the calls that an object is meant for; the
 * same calls give the same answers; a call that is refused, or only asks, changes nothing.
 */
final class WildTest {
    private static final int[] EDGES = {Integer.MIN_VALUE, Integer.MIN_VALUE + 1, -1000, -300, -31, -15, -2, -1, 0, 1,
        2, 3, 4, 5, 6, 7, 8, 9, 10, 11, 12, 13, 19, 20, 29, 30, 31, 32, 49, 50, 59, 60, 61, 63, 90, 91, 99, 100, 119,
        120, 255, 256, 299, 300, 309, 310, 399, 511, 999, 1000, 1023, 1024, 65535, 65536, Integer.MAX_VALUE - 1,
        Integer.MAX_VALUE};
    private static final long[] LONGS = {Long.MIN_VALUE, -1, 0, 1, 127, 128, 300, Long.MAX_VALUE};

    // Calls that only ask, each as it is answered on Twins.busy(): bytes, shorts, ints and a body on the shelves.
    private static final Object[][] ASKS = {{"of", 3, 2}, {"of", 0, 12}, {"gives", 3, 9}, {"run", 13, 61, 1},
        {"run", 13, 71, 2}, {"tint", 13, 31, 0}, {"safe", 13, 30, 50}, {"together", 0, 399}, {"heat", 13, 99},
        {"cloths", 13, 310}, {"heaps", 13, 305, -1}, {"heaps", 13, 305, 3}, {"cost", 13, 32, 9}, {"alone", 3, 3},
        {"late", 0, 0}, {"late", 0, 1}, {"soon", 0, 0}, {"swap", 0}, {"line", 15, 3, 0}, {"line", 15, -1, 1},
        {"rain", 15, 50}, {"order", 15, -1}, {"order", 15, 2}, {"judge", 1, 13, 30}, {"which", 1, 8, 31, 0},
        {"which", 1, 0, 30, 1}, {"heatOfIt", 1, 8}, {"sock", 1, 9, 3, 3}, {"test", 15, 620}, {"drawn", 7, 309, 0},
        {"drawn", 7, 309, 1}, {"led", 1}, {"trace", 3}, {"element", 2, 1}, {"taken", 4, 3}, {"count", 5}};

    private static final List<Method> METHODS = new ArrayList<>();

    public static void main(String[] args) throws Exception {
        for (Method m : WithTheReds.class.getDeclaredMethods()) {
            if (Modifier.isPublic(m.getModifiers())) {
                METHODS.add(m);
            }
        }
        METHODS.sort(Comparator.comparing(Method::getName));
        for (int seed = 0; seed < 400; seed++) {
            wild(seed);
        }
        eachEdge(new WithTheReds());
        eachEdge(full());
        whatOnlyAsks();
        whatIsRefused();
        Due.end();
    }

    private static Object answer(WithTheReds w, Method m, Object[] args) throws IllegalAccessException {
        try {
            return m.invoke(w, args);
        } catch (InvocationTargetException thrown) {
            Due.that(m.getName() + Arrays.toString(args) + " threw " + thrown.getCause(), false);
            return 0;
        }
    }

    private static Object[] drawn(Method m, Random random) {
        Object[] args = new Object[m.getParameterCount()];
        for (int i = 0; i < args.length; i++) {
            if (m.getParameterTypes()[i] == long.class) {
                args[i] = LONGS[random.nextInt(LONGS.length)];
            } else {
                args[i] = random.nextInt(8) == 0 ? random.nextInt() : EDGES[random.nextInt(EDGES.length)];
            }
        }
        return args;
    }

    /** Two objects with the same wild calls; more calls than an object is meant for, too. */
    private static void wild(int seed) throws Exception {
        WithTheReds a = seed % 2 == 0 ? new WithTheReds() : full();
        WithTheReds b = seed % 2 == 0 ? new WithTheReds() : full();
        Random random = new Random(seed);
        for (int i = 0; i < 1000; i++) {
            Method m = METHODS.get(random.nextInt(METHODS.size()));
            Object[] args = drawn(m, random);
            Due.that(m.getName() + " twice the same", answer(a, m, args).equals(answer(b, m, args)));
        }
    }

    /** Ten things, fifty bodies, forty changes, all shelves held, a long law, a full tape, an image. */
    private static WithTheReds full() {
        WithTheReds w = new WithTheReds();
        for (int i = 0; i < 10; i++) {
            w.thing(i % 4, i % 3 + 1);
            w.mend(i, 1, 9 - i);
            w.mend(i, 5, i + 1);
            w.mend(i, 7, i % 3);
            w.mend(i, 6, i % 2);
            w.mend(i, 3, 3 + i % 7);
        }
        for (int i = 0; i < 50; i++) {
            w.body(i % 8);
        }
        for (int sort = 0; sort < 5; sort++) {
            w.row(sort, sort, 60);
        }
        w.keep(5, 49);
        for (char c : "r>n?(r-n)*h/3+(!(n-2));((((((b))))))".toCharArray()) {
            w.feed(c);
        }
        w.law();
        for (int i = 0; i < 120; i++) {
            w.feed('(');
        }
        w.wash(1, 31);
        w.image();
        w.act(47, 3, 5);
        return w;
    }

    /** Each call with each edge in each place, the other places at 0 or 1. */
    private static void eachEdge(WithTheReds w) throws Exception {
        for (Method m : METHODS) {
            for (int place = 0; place < m.getParameterCount(); place++) {
                for (int edge : EDGES) {
                    for (int rest = -1; rest <= 1; rest++) {
                        Object[] args = new Object[m.getParameterCount()];
                        for (int i = 0; i < args.length; i++) {
                            int v = i == place ? edge : rest;
                            args[i] = m.getParameterTypes()[i] == long.class ? (Object) (long) v : (Object) v;
                        }
                        Due.that(m.getName(), answer(w, m, args) != null);
                    }
                }
            }
        }
    }

    private static long[] numbers(Object[] args, int from) {
        return Arrays.stream(args, from, args.length).mapToLong(arg -> ((Number) arg).longValue()).toArray();
    }

    private static void whatOnlyAsks() {
        for (Object[] ask : ASKS) {
            String name = (String) ask[0];
            Twins.refused(Twins::busy, Twins.busy().answer(name, numbers(ask, 1)), name, numbers(ask, 1));
        }
    }

    /** Drawn calls, most of them wrong, on objects with something of everything. */
    private static void whatIsRefused() {
        Random random = new Random(5);
        List<Supplier<Asked>> made = List.of(Twins::busy, Twins::tenThings, Twins::fullTape, Twins::fiftyBodies);
        for (int i = 0; i < 800; i++) {
            Method m = METHODS.get(random.nextInt(METHODS.size()));
            String name = m.getName();
            Supplier<Asked> one = made.get(i % made.size());
            long[] args = numbers(drawn(m, random), 0);
            long got = one.get().answer(name, args);
            boolean isRefused = got == -1 || got == -2 || got == -3 || got == -5 || got <= -11 && got >= -14;
            // No law and no act is refused by such an answer, and both leave something behind.
            if (isRefused && !name.equals("act") && !name.equals("law")) {
                Twins.refused(one, got, name, args);
            }
        }
    }
}
