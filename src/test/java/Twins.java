import java.util.Arrays;
import java.util.List;
import java.util.function.Function;
import java.util.function.Supplier;

/**
 * "What is answered so changes nothing": of two like objects one gets the call that is refused, and then
 * all that can be seen of both is the same: what they tell, and how they go on.
 */
final class Twins {
    private static final int BUSY_CALLS = 300;
    // Each on twins of its own, so that no object gets more calls than it is meant for.
    private static final List<Function<Asked, String>> LOOKS = List.of(Twins::things, a -> shelves(a, 0),
            a -> shelves(a, 2), a -> shelves(a, 4), Twins::traceAndLaw, a -> steps(a, "undo"), a -> steps(a, "redo"),
            Twins::back, Twins::next);

    private Twins() {
    }

    static void refused(Supplier<Asked> made, long want, String name, long... args) {
        for (Function<Asked, String> look : LOOKS) {
            Asked with = made.get();
            Asked without = made.get();
            with.due(want, name, args);
            String seen = look.apply(with);
            Due.that(name + Arrays.toString(args) + " changes nothing", seen.equals(look.apply(without)));
        }
    }

    static void bad(String name, long... args) {
        refused(Twins::busy, -1, name, args);
    }

    /** A call with each of some values in one of its places: all BAD. */
    static void badIn(String name, int place, int[] values, long... args) {
        for (int value : values) {
            long[] given = args.clone();
            given[place] = value;
            bad(name, given);
        }
    }

    /** Four things and something of everything, so that a call that changes what it should not is seen. */
    static Asked busy() {
        Asked a = Asked.four().law("r+h-n");
        a.does("feed", 's').does("feed", '*');
        a.does("wash", 15, 31).does("image").does("throwAway", 1).does("wash", 8, 30);
        a.does("mend", 0, 8, 20).does("mend", 2, 5, 3).does("mend", 0, 6, 2).does("undo").does("undo");
        a.does("body", 7).does("body", 5).does("body", 0).does("act", 1, 3, 5);
        a.row(0, 0, 1, 2, 3, 0, -1).row(1, 1, 13, 6, 0, 0).row(2, 2, 7, 8, 9).row(3, 4, 1, 0, 1);
        return a.does("keep", 4, 1);
    }

    static Asked tenThings() {
        Asked a = busy();
        for (int i = 4; i < 10; i++) {
            a.due(i, "thing", i % 4, 1);
        }
        return a;
    }

    static Asked fullTape() {
        Asked a = busy();
        String text = "s*" + "s+".repeat(58) + "11";
        for (int i = 3; i <= 120; i++) {
            a.due(i, "feed", text.charAt(i - 1));
        }
        return a;
    }

    static Asked fiftyBodies() {
        Asked a = busy();
        for (int i = 3; i < 50; i++) {
            a.due(i, "body", i % 8);
        }
        return a;
    }

    private static void numbers(Asked a, StringBuilder s) {
        for (int thing = 0; thing < 10; thing++) {
            for (int what = 0; what < 8; what++) {
                s.append(a.answer("of", thing, what)).append(' ');
            }
        }
        for (int what = 8; what < 12; what++) {
            s.append(a.answer("of", 0, what)).append(' ');
        }
    }

    private static void deeds(Asked a, StringBuilder s) {
        for (int thing = 0; thing < 10; thing++) {
            s.append(a.answer("of", thing, 12)).append(' ').append(a.answer("of", thing, 13)).append(' ');
        }
        for (int what = 0; what < 6; what++) {
            s.append(a.answer("count", what)).append(' ').append(a.answer("led", what)).append(' ');
        }
    }

    private static String things(Asked a) {
        StringBuilder s = new StringBuilder();
        numbers(a, s);
        deeds(a, s);
        return s.toString();
    }

    private static String shelves(Asked a, int first) {
        StringBuilder s = new StringBuilder();
        for (int shelf = first; shelf < first + 2; shelf++) {
            for (int i = 0; i < 60; i++) {
                s.append(a.answer("element", shelf, i)).append(' ');
            }
            for (int k = 0; k < 8; k++) {
                s.append(a.answer("taken", shelf, k)).append(' ');
            }
            // What it cuts a number to tells a row's sort.
            s.append(a.answer("put", shelf, 0, 0x123456789ABCDEFL)).append(' ').append(a.answer("element", shelf, 0));
        }
        return s.toString();
    }

    private static void gives(Asked a, StringBuilder s) {
        for (int thing = 0; thing < 10; thing++) {
            s.append(a.answer("gives", thing, 3)).append(' ').append(a.answer("gives", thing, 8)).append(' ');
        }
    }

    private static String traceAndLaw(Asked a) {
        StringBuilder s = new StringBuilder();
        for (int i = 0; i < 25; i++) {
            s.append(a.answer("trace", i)).append(' ');
        }
        gives(a, s);
        s.append(a.answer("feed", 's')).append(' ').append(a.answer("law")).append(' ');
        gives(a, s);
        return s.toString();
    }

    /** All that undo() or redo() still does, with the numbers at each step while there are calls left. */
    private static String steps(Asked a, String name) {
        StringBuilder s = new StringBuilder();
        for (int i = 0; i <= 40; i++) {
            s.append(a.answer(name)).append(' ');
            if (a.calls() < BUSY_CALLS) {
                numbers(a, s);
            }
        }
        return s.toString();
    }

    private static String back(Asked a) {
        StringBuilder s = new StringBuilder();
        s.append(a.answer("back")).append(' ');
        numbers(a, s);
        deeds(a, s);
        return s.toString();
    }

    /** What comes next gets the number that is next. */
    private static String next(Asked a) {
        StringBuilder s = new StringBuilder();
        s.append(a.answer("thing", 0, 1)).append(' ').append(a.answer("body", 3)).append(' ');
        s.append(a.answer("image")).append(' ');
        numbers(a, s);
        deeds(a, s);
        return s.toString();
    }
}
