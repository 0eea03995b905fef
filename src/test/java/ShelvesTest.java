/** Promises 41 to 45 and 47: keep, row, put, element, shift, count. */
final class ShelvesTest {
    private static final long NO = Long.MIN_VALUE;

    public static void main(String[] args) {
        keep();
        row();
        putAndElement();
        placesRefused();
        shift();
        shiftRefused();
        count();
        Due.end();
    }

    private static void keep() {
        WithTheReds w = new WithTheReds();
        w.body(3);
        Due.is("a body", w.keep(0, 0), 1);
        Due.is("it is there", w.taken(0, 3), 3);
        Due.is("on another shelf, too", w.keep(5, 0), 1);
        Due.is("nothing", w.keep(0, -1), 1);
        Due.is("it is gone", w.taken(0, 3), -11);
        Due.is("the other is not", w.taken(5, 3), 3);
        Due.is("no such body", w.keep(5, 1), -1);
        Due.is("body -2", w.keep(5, -2), -1);
        Due.is("as it was", w.taken(5, 3), 3);
        Due.is("shelf -1", w.keep(-1, -1), -1);
        Due.is("shelf 6", w.keep(6, -1), -1);
        w.row(1, 2, 3);
        Due.is("a body for a row", w.keep(1, 0), 1);
        Due.is("no row", w.element(1, 0), NO);
        w.row(1, 2, 3);
        Due.is("nothing for a row", w.keep(1, -1), 1);
        Due.is("no row there", w.put(1, 0, 1), -11);
    }

    private static void row() {
        WithTheReds w = new WithTheReds();
        for (int sort = 0; sort <= 4; sort++) {
            Due.is("60 of sort " + sort, w.row(sort, sort, 60), 1);
            Due.is("the last", w.element(sort, 59), 0);
            Due.is("none behind it", w.element(sort, 60), NO);
        }
        Due.is("0", w.row(5, 0, 0), 1);
        Due.is("no element", w.element(5, 0), NO);
        Due.is("sort -1", w.row(0, -1, 1), -1);
        Due.is("sort 5", w.row(0, 5, 1), -1);
        Due.is("61", w.row(0, 0, 61), -1);
        Due.is("-1", w.row(0, 0, -1), -14);
        Due.is("the least size", w.row(0, 0, Integer.MIN_VALUE), -14);
        Due.is("BAD ahead of -14", w.row(0, 5, -1), -1);
        Due.is("shelf -1", w.row(-1, 0, 1), -1);
        Due.is("shelf 6 ahead of -14", w.row(6, 0, -1), -1);
        w.put(0, 3, 7);
        w.put(0, 50, 7);
        Due.is("refused rows change nothing", w.element(0, 3), 7);
        w.row(0, 3, 10);
        Due.is("a new row is of 0", w.element(0, 3), 0);
        w.row(0, 0, 60);
        Due.is("a longer one, too", w.element(0, 50), 0);
        w.body(0);
        w.keep(0, 0);
        Due.is("a row for a body", w.row(0, 1, 1), 1);
        Due.is("no body", w.taken(0, 0), -12);
    }

    private static void putAndElement() {
        WithTheReds w = new WithTheReds();
        long[] values = {0, 1, -1, 127, 128, 255, 256, 300, -129, 32767, 32768, 65535, 65536, 2147483647L,
            2147483648L, 4294967296L, Long.MAX_VALUE, Long.MIN_VALUE, 1L << 40};
        for (int sort = 0; sort <= 4; sort++) {
            w.row(sort, sort, values.length);
            for (int i = 0; i < values.length; i++) {
                long v = values[i];
                long[] want = {(byte) v, (short) v, (int) v, v, v != 0 ? 1 : 0};
                Due.is("put " + v, w.put(sort, i, v), 1);
                Due.is(v + " of sort " + sort, w.element(sort, i), want[sort]);
            }
            Due.is("the first stays", w.element(sort, 0), 0);
        }
    }

    private static void placesRefused() {
        WithTheReds w = new WithTheReds();
        Due.is("shelf -1", w.put(-1, 0, 1), -1);
        Due.is("shelf 6", w.put(6, 0, 1), -1);
        Due.is("element shelf -1", w.element(-1, 0), NO);
        Due.is("element shelf 6", w.element(6, 0), NO);
        Due.is("nothing", w.put(0, 0, 1), -11);
        Due.is("nothing ahead of no place", w.put(0, -1, 1), -11);
        Due.is("element of nothing", w.element(0, 0), NO);
        w.body(0);
        w.keep(0, 0);
        Due.is("a body", w.put(0, 0, 1), -12);
        Due.is("a body ahead of no place", w.put(0, 99, 1), -12);
        Due.is("element of a body", w.element(0, 0), NO);
        w.row(0, 2, 3);
        Due.is("place -1", w.put(0, -1, 1), -13);
        Due.is("place 3", w.put(0, 3, 1), -13);
        Due.is("place 2", w.put(0, 2, 1), 1);
        Due.is("the greatest place", w.put(0, Integer.MAX_VALUE, 1), -13);
        Due.is("element -1", w.element(0, -1), NO);
        Due.is("element 3", w.element(0, 3), NO);
    }

    private static void elements(String said, WithTheReds w, int shelf, long... want) {
        for (int i = 0; i < want.length; i++) {
            Due.is(said + ", element " + i, w.element(shelf, i), want[i]);
        }
    }

    private static void shift() {
        WithTheReds w = new WithTheReds();
        Due.row(w, 0, 2, 1, 2, 3, 4, 5);
        Due.is("up within", w.shift(0, 0, 0, 1, 4), 4);
        elements("up", w, 0, 1, 1, 2, 3, 4);
        Due.row(w, 0, 2, 1, 2, 3, 4, 5);
        Due.is("down within", w.shift(0, 1, 0, 0, 4), 4);
        elements("down", w, 0, 2, 3, 4, 5, 5);
        Due.row(w, 1, 2, 0, 0, 0);
        Due.is("to another", w.shift(0, 3, 1, 1, 2), 2);
        elements("other", w, 1, 0, 5, 5);
        elements("from as it was", w, 0, 2, 3, 4, 5, 5);
        Due.is("none", w.shift(0, 5, 1, 3, 0), 0);
        Due.is("all", w.shift(1, 0, 0, 2, 3), 3);
        elements("all", w, 0, 2, 3, 0, 5, 5);
        w.row(2, 4, 0);
        w.row(3, 4, 0);
        Due.is("none of rows without elements", w.shift(2, 0, 3, 0, 0), 0);
    }

    private static void shiftRefused() {
        WithTheReds w = new WithTheReds();
        w.body(0);
        Due.is("shelf -1", w.shift(-1, 0, 0, 0, 0), -1);
        Due.is("other 6", w.shift(0, 0, 6, 0, 0), -1);
        Due.is("nothing", w.shift(0, 0, 0, 0, 0), -11);
        w.row(0, 0, 4);
        Due.is("nothing to come to", w.shift(0, 0, 1, 0, 0), -11);
        Due.is("nothing to come from", w.shift(1, 0, 0, 0, 0), -11);
        w.keep(2, 0);
        Due.is("a body and nothing", w.shift(2, 0, 1, 0, 0), -11);
        Due.is("to a body", w.shift(0, 0, 2, 0, 1), -12);
        Due.is("from a body", w.shift(2, 0, 0, 0, 1), -12);
        Due.is("from a body to itself", w.shift(2, 0, 2, 0, 0), -12);
        w.row(1, 1, 4);
        Due.is("unlike sorts", w.shift(0, 0, 1, 0, 1), -12);
        Due.is("unlike sorts ahead of no place", w.shift(0, 9, 1, 0, 1), -12);
        w.row(1, 0, 3);
        Due.is("n -1", w.shift(0, 0, 1, 0, -1), -13);
        Due.is("i -1", w.shift(0, -1, 1, 0, 1), -13);
        Due.is("j -1", w.shift(0, 0, 1, -1, 1), -13);
        Due.is("from behind the end", w.shift(0, 3, 1, 0, 2), -13);
        Due.is("to behind the end", w.shift(0, 0, 1, 2, 2), -13);
        Due.is("too many", w.shift(0, 0, 1, 0, 4), -13);
        Due.is("none from behind the end", w.shift(0, 5, 1, 0, 0), -13);
        Due.is("none to behind the end", w.shift(0, 0, 1, 4, 0), -13);
        int max = Integer.MAX_VALUE;
        Due.is("sums that wrap", w.shift(0, max, 1, 0, max), -13);
        Due.is("sums that wrap there", w.shift(0, 1, 1, max, max), -13);
        Due.is("the least numbers", w.shift(0, Integer.MIN_VALUE, 1, 0, Integer.MIN_VALUE), -13);
        elements("as it was", w, 1, 0, 0, 0);
    }

    private static void count() {
        WithTheReds w = Due.four();
        w.throwAway(0);
        w.feed('1');
        w.body(4);
        w.body(0);
        w.act(1, 3, 1);
        int[] want = {4, 3, 1, 2, 2, 4};
        for (int what = 0; what < want.length; what++) {
            Due.is("count " + what, w.count(what), want[what]);
        }
        w.law();
        Due.is("no tape", w.count(2), 0);
        Due.is("what -1", w.count(-1), -1);
        Due.is("what 6", w.count(6), -1);
    }
}
