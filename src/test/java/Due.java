/** What the tests share: comparing an answer with the one that is due, and often used beginnings. */
final class Due {
    private static int wrong;
    private static int asked;

    private Due() {
    }

    static void is(String call, long got, long want) {
        asked++;
        if (got != want) {
            wrong++;
            System.out.println(call + " answered " + got + ", due is " + want);
        }
    }

    static void that(String said, boolean holds) {
        is(said, holds ? 1 : 0, 1);
    }

    static void end() {
        System.out.println(asked + " answers, " + wrong + " not as due");
        if (wrong != 0 || asked == 0) {
            System.exit(1);
        }
    }

    /** Feeds a text to the tape; what law() answers. */
    static int tell(WithTheReds w, String text) {
        for (int i = 0; i < text.length(); i++) {
            is("feed " + text.charAt(i), w.feed(text.charAt(i)), i + 1);
        }
        return w.law();
    }

    /** A row of a sort on a shelf, with its elements. */
    static void row(WithTheReds w, int shelf, int sort, long... elements) {
        is("row", w.row(shelf, sort, elements.length), 1);
        for (int i = 0; i < elements.length; i++) {
            is("put", w.put(shelf, i, elements[i]), 1);
        }
    }

    /** White of size 3, light, dark and red of size 2; the red one's DYE is 9, the dark one's 4. */
    static WithTheReds four() {
        WithTheReds w = new WithTheReds();
        is("white", w.thing(0, 3), 0);
        is("light", w.thing(1, 2), 1);
        is("dark", w.thing(2, 2), 2);
        is("red", w.thing(3, 2), 3);
        is("dark's dye", w.mend(2, 1, 4), 0);
        is("red's dye", w.mend(3, 1, 9), 0);
        return w;
    }
}
