import java.lang.reflect.Method;
import java.util.ArrayList;
import java.util.Comparator;
import java.util.List;
import java.util.Random;

/**
 * All promises: long runs of drawn calls, every answer held against the model's. The draws have a fixed
 * seed, so each run of this test makes the same calls. "java ModelTest n" makes n runs from another seed on.
 */
final class ModelTest {
    private static final int CALLS = 512;
    private static final String[] TEXTS = {"r*h/(n+1)-c", "r>n?(r-n)*h;0", "h*2-n", "n=3|n=9?40;r", "s*b-h", "c=3?60;r",
        "!(n%2)*r", "-(-r)+h/3", "r&n<5?r*5;h>6?9;1", "((((((r))))))", "r*r*r*r*r*r*r*r*r*r*r*r%50", "b<h?99;r",
        "1<2<3", "12345", "(((((((1)))))))", "r+", "0?1", "r;;", "r?h?s", "--r---n"};
    private static final String SIGNS = "rnhcsb0123456789+-*/%<=>|&!()?;";

    private final Random random;
    private final List<Method> methods = new ArrayList<>();
    private final StringBuilder log = new StringBuilder();
    private WithTheReds real;
    private Model model;
    private int left;

    private ModelTest(long seed) {
        random = new Random(seed);
        for (Method m : WithTheReds.class.getDeclaredMethods()) {
            if (java.lang.reflect.Modifier.isPublic(m.getModifiers())) {
                methods.add(m);
            }
        }
        methods.sort(Comparator.comparing(Method::getName));
    }

    public static void main(String[] args) throws Exception {
        int runs = args.length > 0 ? Integer.parseInt(args[0]) : 150;
        long seed = args.length > 0 ? runs * 1000L : 20261118L;
        for (int i = 0; i < runs; i++) {
            new ModelTest(seed + i).run(i);
        }
        Due.end();
    }

    private void run(int number) throws Exception {
        real = new WithTheReds();
        model = new Model();
        left = CALLS;
        begin();
        while (left > 0) {
            int dice = random.nextInt(100);
            if (dice < 3) {
                tell();
            } else if (dice < 8) {
                fillRow();
            } else if (dice < 10) {
                lookAtAll();
            } else if (dice < 13) {
                actAll();
            } else if (dice < 15) {
                shiftRows();
            } else {
                drawCall();
            }
        }
        if (!log.isEmpty()) {
            System.out.println("run " + number + ":" + log);
        }
    }

    /** Some things to start with: a basket that stays empty would test little. */
    private void begin() throws Exception {
        int things = random.nextInt(11);
        for (int i = 0; i < things; i++) {
            call("thing", random.nextInt(4), 1 + random.nextInt(random.nextInt(3) == 0 ? 9 : 4));
            call("mend", i, 1, random.nextInt(10));
            if (random.nextInt(2) == 0) {
                call("mend", i, 5, 1 + random.nextInt(9));
            }
            if (random.nextInt(2) == 0) {
                call("mend", i, 6, random.nextInt(3));
                call("mend", i, 7, random.nextInt(5));
            }
        }
        if (random.nextInt(2) == 0) {
            call("mend", 0, 11, 4 + random.nextInt(10));
            call("mend", 0, 10, 1 + random.nextInt(3));
        }
    }

    private void tell() throws Exception {
        String text = TEXTS[random.nextInt(TEXTS.length)];
        if (random.nextInt(3) == 0) {
            StringBuilder drawn = new StringBuilder(random.nextBoolean() ? text : "");
            int more = 1 + random.nextInt(6);
            for (int i = 0; i < more; i++) {
                drawn.append(SIGNS.charAt(random.nextInt(SIGNS.length())));
            }
            text = drawn.toString();
        }
        for (int i = 0; i < text.length(); i++) {
            call("feed", (int) text.charAt(i));
        }
        call("law");
    }

    private void fillRow() throws Exception {
        int shelf = random.nextInt(6);
        int sort = random.nextInt(2);
        int n = random.nextInt(12);
        call("row", shelf, sort, n);
        int set = set();
        int hc = hc();
        for (int i = 0; i < n; i++) {
            long v = sort == 0 ? random.nextInt(22) - 1 : Math.max(0, model.tint(set, hc, i));
            call("put", shelf, i, v);
        }
        if (sort == 1) {
            call("judge", shelf, set, hc);
            call("heatOfIt", shelf, set);
            call("which", shelf, set & ~(1 << random.nextInt(10)), hc, random.nextInt(2));
            call("sock", shelf, set, hc / 10, random.nextInt(10));
        } else {
            call("late", shelf, random.nextInt(2));
            call("soon", shelf, random.nextInt(3));
            call("swap", shelf);
            call("things", shelf, random.nextInt(4), 1 + random.nextInt(3));
        }
    }

    private void actAll() throws Exception {
        call("body", random.nextInt(8));
        int body = random.nextInt(model.count(4));
        call("act", body, random.nextInt(4), random.nextInt());
        call("count", 5);
        for (int i = 0; i < 5; i++) {
            call("trace", random.nextInt(11));
        }
        int shelf = random.nextInt(6);
        call("keep", shelf, body);
        for (int k = 0; k < 8; k++) {
            call("taken", shelf, k);
        }
    }

    private void shiftRows() throws Exception {
        int sort = random.nextInt(5);
        int shelf = random.nextInt(6);
        int other = random.nextInt(6);
        call("row", shelf, sort, 3 + random.nextInt(4));
        call("row", other, sort, 3 + random.nextInt(4));
        for (int i = 0; i < 6; i++) {
            call("put", random.nextBoolean() ? shelf : other, random.nextInt(6), wildLong());
        }
        call("shift", shelf, random.nextInt(4), other, random.nextInt(4), random.nextInt(5));
        for (int i = 0; i < 6; i++) {
            call("element", other, i);
        }
    }

    private void lookAtAll() throws Exception {
        int thing = random.nextInt(10);
        for (int what = 0; what <= 13; what++) {
            call("of", what >= 8 && what <= 11 ? 0 : thing, what);
        }
        for (int what = 0; what <= 5; what++) {
            call("count", what);
            call("led", what);
        }
    }

    private int set() {
        int all = (1 << model.count(0)) - 1;
        switch (random.nextInt(20)) {
            case 0:
                return random.nextInt(1100) - 20;
            case 1: case 2: case 3: case 4: case 5: case 6:
                return random.nextInt(1024) & random.nextInt(1024) & all;
            case 7: case 8: case 9:
                return (random.nextInt(1024) | random.nextInt(1024)) & all;
            default:
                return random.nextInt(1024) & all;
        }
    }

    private int hc() {
        return (3 + random.nextInt(random.nextBoolean() ? 4 : 7)) * 10 + random.nextInt(2);
    }

    private void drawCall() throws Exception {
        Method m = methods.get(random.nextInt(methods.size()));
        if (m.getName().equals("throwAway") && random.nextInt(4) != 0) {
            // With all thrown away no run goes.
            return;
        }
        Object[] args = new Object[m.getParameterCount()];
        for (int i = 0; i < args.length; i++) {
            args[i] = m.getParameterTypes()[i] == long.class ? (Object) wildLong() : (Object) number(m.getName(), i);
        }
        call(m.getName(), args);
    }

    private long wildLong() {
        return random.nextInt(3) == 0 ? random.nextLong() : random.nextInt(40) - 5;
    }

    /** A number for a call's place: mostly one that the call takes. */
    private int number(String name, int place) {
        int dice = random.nextInt(60);
        if (dice == 0) {
            return random.nextInt();
        }
        if (dice == 1) {
            int[] edges = {-2, -1, 0, 11, 61, 100, 1000, Integer.MIN_VALUE, Integer.MAX_VALUE, Integer.MAX_VALUE - 1};
            return edges[random.nextInt(edges.length)];
        }
        return likely(name + place);
    }

    private int likely(String place) {
        switch (place) {
            case "run0": case "tint0": case "safe0": case "heat0": case "cloths0": case "heaps0": case "cost0":
            case "line0": case "rain0": case "order0": case "judge1": case "which1": case "heatOfIt1": case "sock1":
            case "test0": case "wash0":
                return set();
            case "run1": case "tint1": case "safe1": case "judge2": case "which2": case "wash1":
                return hc();
            case "together1": case "cloths1": case "heaps1": case "test1":
                return 300 + random.nextInt(400) / 100 * 100 + random.nextInt(random.nextBoolean() ? 100 : 20);
            case "cost1":
                return hc() / 10 * 10 + random.nextInt(8);
            case "drawn1":
                return random.nextInt(31) * 10 + 2 + random.nextInt(8);
            case "drawn0": case "act2":
                return random.nextInt();
            case "safe2": case "heat1": case "cost2":
                return random.nextInt(102) - 1;
            case "rain1":
                return random.nextInt(random.nextBoolean() ? 200 : 1005);
            case "mend1": case "of1":
                return random.nextInt(15);
            case "mend2":
                return random.nextInt(random.nextBoolean() ? 10 : 62);
            case "mend0": case "of0":
                return random.nextInt(3) == 0 ? 0 : random.nextInt(11);
            case "feed0":
                return SIGNS.charAt(random.nextInt(SIGNS.length()));
            case "gives1": case "alone1": case "sock2":
                return 2 + random.nextInt(9);
            case "row2":
                return random.nextInt(62) - 1;
            case "act0": case "keep1":
                return random.nextInt(model.count(4) + 2) - 1;
            case "act1":
                return random.nextInt(5);
            case "trace0": case "body0": case "taken1":
                return random.nextInt(9);
            case "run2": case "tint2": case "soon1": case "shift1": case "shift3": case "shift4":
                return random.nextInt(5);
            case "late1": case "line2": case "which3": case "drawn2":
                return random.nextInt(9) / 4;
            case "heaps2": case "line1": case "order1":
                return random.nextInt(model.count(0) + 1) - 1;
            case "gives0": case "alone0": case "together0": case "bleach0": case "throwAway0": case "sock3":
                return random.nextInt(model.count(0) + 1);
            case "things0": case "late0": case "soon0": case "swap0": case "judge0": case "which0": case "heatOfIt0":
            case "sock0": case "put0": case "element0": case "shift0": case "shift2": case "taken0": case "keep0":
            case "row0":
                return random.nextInt(6);
            default:
                return random.nextInt(11) - 1;
        }
    }

    private void call(String name, Object... args) throws Exception {
        if (left == 0) {
            return;
        }
        left--;
        Class<?>[] types = new Class<?>[args.length];
        for (int i = 0; i < args.length; i++) {
            types[i] = args[i] instanceof Long ? long.class : int.class;
        }
        Object want = Model.class.getMethod(name, types).invoke(model, args);
        Object got = WithTheReds.class.getMethod(name, types).invoke(real, args);
        String said = name + java.util.Arrays.toString(args);
        Due.is(said, ((Number) got).longValue(), ((Number) want).longValue());
        if (!got.equals(want)) {
            log.append(" call ").append(CALLS - left).append(' ').append(said);
        }
    }
}
