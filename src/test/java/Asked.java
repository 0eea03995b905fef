import java.lang.reflect.Method;
import java.lang.reflect.Modifier;
import java.util.Arrays;
import java.util.HashMap;
import java.util.Map;

/** An object whose calls are made by name, so that a wrong answer is told with its call; 512 calls at most. */
final class Asked {
    private static final int CALLS_MOST = 512;
    private static final Map<String, Method> METHODS = methods();

    private final WithTheReds w = new WithTheReds();
    private int calls;

    private static Map<String, Method> methods() {
        Map<String, Method> all = new HashMap<>();
        for (Method m : WithTheReds.class.getDeclaredMethods()) {
            if (Modifier.isPublic(m.getModifiers())) {
                all.put(m.getName(), m);
            }
        }
        return all;
    }

    /** White of size 3, light, dark and red of size 2; at heat 3 the dark one gives 4, the red one 9. */
    static Asked four() {
        return new Asked().due(0, "thing", 0, 3).due(1, "thing", 1, 2).due(2, "thing", 2, 2).due(3, "thing", 3, 2)
                .due(0, "mend", 2, 1, 4).due(0, "mend", 3, 1, 9);
    }

    /** Things of a colour, all of a size. */
    static Asked many(int n, int colour, int size) {
        Asked a = new Asked();
        for (int i = 0; i < n; i++) {
            a.due(i, "thing", colour, size);
        }
        return a;
    }

    int calls() {
        return calls;
    }

    long answer(String name, long... args) {
        Method m = METHODS.get(name);
        Class<?>[] types = m.getParameterTypes();
        Object[] given = new Object[args.length];
        for (int i = 0; i < args.length; i++) {
            given[i] = types[i] == long.class ? (Object) args[i] : (Object) Math.toIntExact(args[i]);
        }
        calls++;
        if (calls > CALLS_MOST) {
            Due.that(name + " is call " + calls + ": nothing is promised of it", false);
        }
        try {
            return ((Number) m.invoke(w, given)).longValue();
        } catch (ReflectiveOperationException e) {
            throw new IllegalStateException(name + Arrays.toString(args), e);
        }
    }

    Asked due(long want, String name, long... args) {
        Due.is(name + Arrays.toString(args), answer(name, args), want);
        return this;
    }

    /** A call on the way to something, whose answer another test looks at. */
    Asked does(String name, long... args) {
        answer(name, args);
        return this;
    }

    Asked row(int shelf, int sort, long... elements) {
        due(1, "row", shelf, sort, elements.length);
        for (int i = 0; i < elements.length; i++) {
            due(1, "put", shelf, i, elements[i]);
        }
        return this;
    }

    /** Feeds a text to the tape; what law() answers. */
    long tell(String text) {
        for (int i = 0; i < text.length(); i++) {
            due(i + 1, "feed", text.charAt(i));
        }
        return answer("law");
    }

    Asked law(String text) {
        Due.is("law " + text, tell(text), 1);
        return this;
    }
}
