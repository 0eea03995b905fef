/** Promises 1 to 5: a new object, thing, things, mend, of. */
final class ThingsTest {
    private static final int[] LEAST = {0, 0, 0, 3, 1, 1, 0, 0, 1, 0, 1, 1};
    private static final int[] MOST = {3, 9, 99, 9, 9, 99, 8, 30, 60, 99, 9, 60};

    public static void main(String[] args) {
        aNewObject();
        thing();
        thingsCome();
        thingsEnd();
        thingsRefused();
        mendWithinItsEdges();
        mendRefused();
        of();
        Due.end();
    }

    private static void aNewObject() {
        WithTheReds w = new WithTheReds();
        for (int what = 0; what <= 5; what++) {
            Due.is("new count " + what, w.count(what), 0);
        }
        for (int what = 0; what <= 4; what++) {
            Due.is("new led " + what, w.led(what), 0);
        }
        for (int shelf = 0; shelf <= 5; shelf++) {
            Due.is("new shelf", w.taken(shelf, 0), -11);
        }
        Due.is("new drum", w.of(0, 8), 15);
        Due.is("new cloth", w.of(0, 9), 6);
        Due.is("new day", w.of(0, 10), 3);
        Due.is("new line", w.of(0, 11), 20);
        Due.is("new undo", w.undo(), -5);
        Due.is("new redo", w.redo(), -5);
        Due.is("new back", w.back(), -5);
        Due.is("new trace", w.trace(0), -1);
        w.thing(0, 1);
        Due.is("objects share nothing", new WithTheReds().count(0), 0);
    }

    private static void thing() {
        WithTheReds w = new WithTheReds();
        Due.is("colour -1", w.thing(-1, 1), -1);
        Due.is("colour 4", w.thing(4, 1), -1);
        Due.is("size 0", w.thing(0, 0), -1);
        Due.is("size 10", w.thing(0, 10), -1);
        Due.is("refused ones are none", w.count(0), 0);
        for (int i = 0; i < 10; i++) {
            Due.is("thing " + i, w.thing(i % 4, i % 9 + 1), i);
        }
        Due.is("an eleventh", w.thing(0, 1), -3);
        Due.is("BAD goes ahead of FULL", w.thing(4, 1), -1);
        Due.is("ten things", w.count(0), 10);
        int[] first = {1, 0, 0, 6, 6, 12, 0, 7};
        for (int what = 0; what < 8; what++) {
            Due.is("thing 5's " + what, w.of(5, what), first[what]);
        }
    }

    private static void thingsCome() {
        WithTheReds w = new WithTheReds();
        Due.row(w, 5, 0, 9, 3, 8, 7, 0, 0, 1, 1, 9, 9);
        Due.is("from 1, three", w.things(5, 1, 10), 3);
        Due.is("colour", w.of(0, 0), 3);
        Due.is("dye", w.of(0, 1), 8);
        Due.is("size", w.of(0, 4), 7);
        Due.is("washed at first", w.of(0, 2), 0);
        Due.is("bears at first", w.of(0, 3), 6);
        Due.is("dries at first", w.of(0, 5), 12);
        Due.is("by at first", w.of(0, 7), 7);
        Due.is("the last one's size", w.of(2, 4), 9);
        Due.is("no changes", w.count(3), 0);
        Due.is("only n", w.things(5, 1, 2), 2);
        Due.is("five", w.count(0), 5);
    }

    private static void thingsEnd() {
        WithTheReds w = new WithTheReds();
        Due.row(w, 0, 0, 0, 0, 1, 0, 0, 1, 0, 0);
        Due.is("the row ends within a three", w.things(0, 0, 3), 2);
        Due.is("from its last three", w.things(0, 5, 3), 0);
        Due.is("from behind it", w.things(0, 8, 1), 0);
        Due.is("from far behind it", w.things(0, Integer.MAX_VALUE, 1), 0);
        Due.is("from below 0", w.things(0, -1, 1), 0);
        Due.is("from far below 0", w.things(0, Integer.MIN_VALUE, 1), 0);
        Due.is("the row is missing", w.things(1, 0, 1), 0);
        Due.row(w, 1, 0, 0, 0, 1, 4, 0, 1, 0, 0, 1);
        Due.is("a colour that may not be", w.things(1, 0, 3), 1);
        Due.row(w, 1, 0, 0, 0, 1, 0, 10, 1);
        Due.is("a dye that may not be", w.things(1, 0, 3), 1);
        Due.row(w, 1, 0, 0, 0, 1, 0, 0, 0);
        Due.is("a size that may not be", w.things(1, 0, 3), 1);
        Due.row(w, 1, 0, 0, -1, 1);
        Due.is("a dye below 0", w.things(1, 0, 1), 0);
        Due.is("five came", w.count(0), 5);
        Due.row(w, 1, 0, 0, 0, 1, 0, 0, 1, 0, 0, 1);
        Due.is("three more", w.things(1, 0, 3), 3);
        Due.is("then FULL", w.things(1, 0, 3), 2);
        Due.is("FULL from the start", w.things(1, 0, 3), 0);
        Due.is("ten", w.count(0), 10);
    }

    private static void thingsRefused() {
        WithTheReds w = new WithTheReds();
        Due.is("shelf -1", w.things(-1, 0, 1), -1);
        Due.is("shelf 6", w.things(6, 0, 1), -1);
        Due.is("n 0", w.things(0, 0, 0), -1);
        Due.is("n 11", w.things(0, 0, 11), -1);
        for (int sort = 1; sort <= 4; sort++) {
            w.row(0, sort, 6);
            Due.is("a row of sort " + sort, w.things(0, 0, 1), -12);
            Due.is("BAD goes ahead of it", w.things(0, 0, 0), -1);
            Due.is("from below 0, too", w.things(0, -1, 1), -12);
        }
        w.body(0);
        w.keep(0, 0);
        Due.is("a body", w.things(0, 0, 1), -12);
        w.keep(0, -1);
        Due.is("nothing again", w.things(0, 0, 1), 0);
    }

    private static void mendWithinItsEdges() {
        WithTheReds w = new WithTheReds();
        w.thing(1, 1);
        w.thing(2, 2);
        for (int what = 0; what <= 11; what++) {
            int number = what < 8 ? 1 : 0;
            int was = w.of(number, what);
            Due.is("least of " + what, w.mend(number, what, LEAST[what]), was);
            Due.is("most of " + what, w.mend(number, what, MOST[what]), LEAST[what]);
            Due.is("below the least of " + what, w.mend(number, what, LEAST[what] - 1), -1);
            Due.is("above the most of " + what, w.mend(number, what, MOST[what] + 1), -1);
            Due.is("it is the most of " + what, w.of(number, what), MOST[what]);
        }
        int[] other = {1, 0, 0, 6, 1, 12, 0, 7};
        for (int what = 0; what < 8; what++) {
            Due.is("another thing's " + what, w.of(0, what), other[what]);
        }
        Due.is("the same number is told back", w.mend(1, 0, 3), 3);
    }

    private static void mendRefused() {
        WithTheReds w = new WithTheReds();
        w.thing(0, 1);
        Due.is("no such thing", w.mend(1, 0, 1), -1);
        Due.is("thing -1", w.mend(-1, 0, 1), -1);
        Due.is("what -1", w.mend(0, -1, 1), -1);
        Due.is("what 12", w.mend(0, 12, 1), -1);
        Due.is("what 13", w.mend(0, 13, 1), -1);
        for (int what = 8; what <= 11; what++) {
            Due.is("number 1 of " + what, w.mend(1, what, 5), -1);
            Due.is("number -1 of " + what, w.mend(-1, what, 5), -1);
        }
        Due.is("no change", w.count(3), 0);
    }

    private static void of() {
        WithTheReds w = Due.four();
        Due.is("no tint", w.of(0, 12), 0);
        w.wash(9, 30);
        Due.is("a tint", w.of(0, 12), 9);
        Due.is("not thrown away", w.of(0, 13), 0);
        w.throwAway(0);
        Due.is("thrown away", w.of(0, 13), 1);
        Due.is("another is not", w.of(1, 13), 0);
        Due.is("no such thing", w.of(4, 0), -1);
        Due.is("no such thing's tint", w.of(4, 12), -1);
        Due.is("thing -1 thrown away", w.of(-1, 13), -1);
        Due.is("what -1", w.of(0, -1), -1);
        Due.is("what 14", w.of(0, 14), -1);
        Due.is("number 1's drum", w.of(1, 8), -1);
        Due.is("number 1's line", w.of(1, 11), -1);
        Due.is("a thrown away thing is still told", w.of(0, 4), 3);
    }
}
