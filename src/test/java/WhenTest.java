/** Promises 18 to 23: late, soon, swap, line, rain, order. */
final class WhenTest {
    public static void main(String[] args) {
        late();
        soon();
        swap();
        rowsRefused();
        line();
        lineTooShort();
        rain();
        order();
        orderRefused();
        Due.end();
    }

    /** Four things by days 0, 1, 2 and 7; three runs a day. */
    private static WithTheReds wanted() {
        WithTheReds w = Due.four();
        w.mend(0, 7, 0);
        w.mend(1, 7, 1);
        w.mend(2, 7, 2);
        return w;
    }

    private static void late() {
        WithTheReds w = wanted();
        Due.row(w, 0, 0, 2, 3, 8, 19);
        Due.is("days 0, 1, 2, 6", w.late(0, 0), 0);
        Due.is("no days", w.late(0, 1), 0);
        Due.row(w, 0, 0, 3, 6, 15, 19);
        Due.is("days 1, 2, 5, 6", w.late(0, 0), 7);
        Due.is("1 + 1 + 3", w.late(0, 1), 5);
        Due.row(w, 0, 0, -1, 20, 15, 19);
        Due.is("two in none", w.late(0, 0), 7);
        Due.is("only 3", w.late(0, 1), 3);
        Due.row(w, 0, 0, -128, 127, -2, 0);
        Due.is("none, none, none, 0", w.late(0, 0), 7);
        Due.row(w, 0, 0, 0, 0);
        Due.is("without an element in none", w.late(0, 0), 12);
        Due.row(w, 0, 0, 0, 0, 0, 0, 19, 19);
        Due.is("elements without a thing", w.late(0, 1), 0);
        w.mend(0, 10, 1);
        Due.row(w, 0, 0, 19, 1, 2, 7);
        Due.is("a run a day", w.late(0, 1), 19);
        Due.is("what -1", w.late(0, -1), -1);
        Due.is("what 2", w.late(0, 2), -1);
    }

    private static void soon() {
        WithTheReds w = wanted();
        w.mend(0, 6, 8);
        w.mend(2, 6, 8);
        w.mend(1, 6, 3);
        Due.row(w, 5, 0, 19, 1, 2, -1);
        Due.is("who 8: the later of days 6 and 0", w.soon(5, 8), 6);
        Due.is("who 3", w.soon(5, 3), 0);
        Due.is("who 0: in none", w.soon(5, 0), -2);
        Due.is("who 1: no things", w.soon(5, 1), -2);
        w.put(5, 0, 3);
        Due.is("who 8: day 1", w.soon(5, 8), 1);
        Due.row(w, 5, 0, 0, 0);
        Due.is("who 8: one without an element", w.soon(5, 8), -2);
        Due.is("who -1", w.soon(5, -1), -1);
        Due.is("who 9", w.soon(5, 9), -1);
    }

    private static void swap() {
        WithTheReds w = wanted();
        w.mend(0, 10, 1);
        Due.row(w, 1, 0, 3, 0, 2, 1);
        // Days 3, 0, 2, 1 by 0, 1, 2, 7: 3 late. Runs 0 and 3: thing 0 in time, thing 1 on day 3, 2 late;
        // 1 and 3: thing 0 a day late; 2 and 3: two and one.
        Due.is("runs 1 and 3", w.swap(1), 23);
        w.mend(1, 7, 3);
        Due.is("runs 0 and 3 now", w.swap(1), 3);
        Due.row(w, 1, 0, 0, 1, 2, 3);
        Due.is("none is late", w.swap(1), -2);
        Due.row(w, 1, 0, 1, 2, 0, 7);
        // One late: with run 0 thing 2 gets to day 1 and thing 0 to day 0.
        Due.is("runs 0 and 1", w.swap(1), 1);
        Due.row(w, 1, 0, -1, 0, 0, 19);
        w.mend(3, 7, 18);
        // Any run from 1 to 18, which are empty, does: the first is 0, which would make things 1 and 2 late.
        Due.is("an empty run", w.swap(1), 39);
        w.mend(0, 10, 9);
        Due.row(w, 1, 0, 9, 9, 9, 0);
        Due.is("runs 0 and 9 (all of the first day are alike)", w.swap(1), 9);
        Due.row(w, 1, 0);
        Due.is("all in none", w.swap(1), -2);
    }

    private static void rowsRefused() {
        WithTheReds w = wanted();
        for (int shelf = -1; shelf <= 6; shelf += 7) {
            Due.is("late shelf " + shelf, w.late(shelf, 0), -1);
            Due.is("soon shelf " + shelf, w.soon(shelf, 0), -1);
            Due.is("swap shelf " + shelf, w.swap(shelf), -1);
        }
        Due.is("late nothing", w.late(0, 0), -11);
        Due.is("soon nothing", w.soon(0, 0), -11);
        Due.is("swap nothing", w.swap(0), -11);
        Due.is("late BAD ahead of nothing", w.late(0, 2), -1);
        Due.is("soon BAD ahead of nothing", w.soon(0, 9), -1);
        for (int sort = 1; sort <= 4; sort++) {
            w.row(0, sort, 4);
            Due.is("late sort " + sort, w.late(0, 0), -12);
            Due.is("soon sort " + sort, w.soon(0, 0), -12);
            Due.is("swap sort " + sort, w.swap(0), -12);
        }
        w.body(0);
        w.keep(0, 0);
        Due.is("late body", w.late(0, 0), -12);
        Due.is("soon body", w.soon(0, 0), -12);
        Due.is("swap body", w.swap(0), -12);
        Due.is("late BAD ahead of a body", w.late(0, 2), -1);
    }

    /** Sizes 3, 2, 2, 2 that dry in 50, 20, 100, 10 minutes, on a line of 5. */
    private static WithTheReds hung() {
        WithTheReds w = Due.four();
        w.mend(0, 5, 5);
        w.mend(1, 5, 2);
        w.mend(2, 5, 10);
        w.mend(3, 5, 1);
        w.mend(0, 11, 5);
        return w;
    }

    private static void line() {
        WithTheReds w = hung();
        // 0 and 1 at once; 2 when 1 is dry; 3 when 0 is dry.
        int[] hung = {0, 0, 20, 50};
        int[] dry = {50, 20, 120, 60};
        for (int thing = 0; thing < 4; thing++) {
            Due.is("hung " + thing, w.line(15, thing, 0), hung[thing]);
            Due.is("dry " + thing, w.line(15, thing, 1), dry[thing]);
        }
        Due.is("all", w.line(15, -1, 0), 120);
        Due.is("all, what 1", w.line(15, -1, 1), 120);
        Due.is("none", w.line(0, -1, 0), 0);
        Due.is("a part of them", w.line(14, 3, 0), 20);
        Due.is("not of the set", w.line(14, 0, 0), -2);
        // 3 would have room at once, but may not hang ahead of 2.
        w.mend(2, 4, 5);
        w.mend(3, 4, 1);
        Due.is("2 waits for all", w.line(15, 2, 0), 50);
        Due.is("3 waits behind 2", w.line(15, 3, 0), 150);
        Due.is("what -1", w.line(15, 0, -1), -1);
        Due.is("what 2", w.line(15, 0, 2), -1);
        Due.is("all, what 2", w.line(15, -1, 2), -1);
        Due.is("thing -2", w.line(15, -2, 0), -1);
        Due.is("thing 4", w.line(15, 4, 0), -1);
        Due.is("set", w.line(16, -1, 0), -1);
    }

    private static void lineTooShort() {
        WithTheReds w = hung();
        w.mend(2, 4, 6);
        Due.is("ahead of it", w.line(15, 1, 1), 20);
        Due.is("it", w.line(15, 2, 0), -2);
        Due.is("behind it", w.line(15, 3, 0), -2);
        Due.is("all", w.line(15, -1, 0), -2);
        Due.is("without it", w.line(11, -1, 0), 50);
        Due.is("rain on those ahead", w.rain(15, 30), 1);
        Due.is("no rain on those behind", w.rain(15, 60), 0);
        Due.is("order", w.order(15, -1), -2);
        Due.is("the first of the order", w.order(15, 0), -2);
    }

    private static void rain() {
        WithTheReds w = hung();
        Due.is("minute 0", w.rain(15, 0), 3);
        Due.is("minute 19", w.rain(15, 19), 3);
        Due.is("minute 20", w.rain(15, 20), 5);
        Due.is("minute 49", w.rain(15, 49), 5);
        Due.is("minute 50", w.rain(15, 50), 12);
        Due.is("minute 60", w.rain(15, 60), 4);
        Due.is("minute 119", w.rain(15, 119), 4);
        Due.is("minute 120", w.rain(15, 120), 0);
        Due.is("minute 999", w.rain(15, 999), 0);
        w.mend(3, 5, 99);
        Due.is("990 minutes", w.rain(8, 989), 8);
        Due.is("then dry", w.rain(8, 990), 0);
        Due.is("minute -1", w.rain(15, -1), -1);
        Due.is("minute 1000", w.rain(15, 1000), -1);
        Due.is("set", w.rain(16, 0), -1);
    }

    private static void order() {
        WithTheReds w = hung();
        // 2 takes 100; 0 and 3 and 1 fit beside it: 2 first is as soon as can be, and 0, 2 is ahead of it.
        Due.is("as soon as the longest", w.order(15, -1), 100);
        Due.is("first", w.order(15, 0), 0);
        Due.is("second", w.order(15, 1), 2);
        Due.is("third", w.order(15, 2), 1);
        Due.is("fourth", w.order(15, 3), 3);
        Due.is("no fifth", w.order(15, 4), -2);
        Due.is("none", w.order(0, -1), 0);
        Due.is("none's first", w.order(0, 0), -2);
        Due.is("one", w.order(8, 0), 3);
        Due.is("one's minute", w.order(8, -1), 10);
        Due.is("two of a kind stay by numbers", w.order(10, 0), 1);
    }

    private static void orderRefused() {
        WithTheReds w = hung();
        Due.is("k -2", w.order(15, -2), -1);
        Due.is("set", w.order(16, -1), -1);
        w.thing(0, 1);
        w.thing(0, 1);
        w.mend(0, 11, 60);
        Due.is("six, all at once", w.order(63, -1), 120);
        Due.is("six by numbers", w.order(63, 5), 5);
        w.thing(0, 1);
        Due.is("seven", w.order(127, -1), -5);
        Due.is("seven's first", w.order(127, 0), -5);
        Due.is("BAD goes ahead of STATE", w.order(127, -2), -1);
        Due.is("six of seven", w.order(126, 6), -2);
    }
}
