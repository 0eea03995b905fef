/** Promises 15 to 17: heaps, cost, alone. */
final class HeapsTest {
    public static void main(String[] args) {
        heaps();
        firstWay();
        heapsBySize();
        heapsRefused();
        cost();
        costRefused();
        alone();
        aloneForEver();
        Due.end();
    }

    private static void runs(WithTheReds w, int set, int ht, int... want) {
        for (int thing = 0; thing < want.length; thing++) {
            Due.is("run of " + thing + " in " + set + " by " + ht, w.heaps(set, ht, thing), want[thing]);
        }
    }

    private static void heaps() {
        WithTheReds w = Due.four();
        // White must not be with dark or red; light not with dark (4 / 2) or red; dark may be with red.
        Due.is("two", w.heaps(15, 300, -1), 2);
        runs(w, 15, 300, 0, 0, 1, 1);
        // Light may be with dark by 2, but not with dark and red; both ways have two runs.
        Due.is("two by 2", w.heaps(15, 302, -1), 2);
        runs(w, 15, 302, 0, 0, 1, 1);
        Due.is("one by 13", w.heaps(15, 313, -1), 1);
        Due.is("two by 12", w.heaps(15, 312, -1), 2);
        // By 12: white, light and dark are fine (4, 2, 0); with red white would get 9, but 13 with both.
        runs(w, 15, 312, 0, 0, 0, 1);
        Due.is("at 7 all are spoilt", w.heaps(15, 799, -1), -2);
        Due.is("then no thing has a run", w.heaps(15, 799, 0), -2);
        Due.is("none", w.heaps(0, 300, -1), 0);
        Due.is("not of the set", w.heaps(14, 300, 0), -2);
        runs(w, 9, 300, 0, -2, -2, 1);
        w.throwAway(1);
        Due.is("one thrown away", w.heaps(15, 300, -1), -2);
        Due.is("without it", w.heaps(13, 300, -1), 2);
    }

    private static void firstWay() {
        WithTheReds w = new WithTheReds();
        int[] sizes = {5, 4, 3, 3, 3, 2};
        for (int size : sizes) {
            w.thing(0, size);
        }
        w.mend(0, 8, 10);
        // 20 in two runs of 10: 5 + 3 + 2 and 4 + 3 + 3; the first by numbers has thing 2 with thing 0.
        Due.is("two runs", w.heaps(63, 300, -1), 2);
        runs(w, 63, 300, 0, 1, 0, 1, 1, 0);
        w.mend(0, 8, 9);
        Due.is("three runs of 9", w.heaps(63, 300, -1), 3);
        runs(w, 63, 300, 0, 0, 1, 1, 1, 2);
    }

    private static void heapsBySize() {
        WithTheReds w = new WithTheReds();
        for (int i = 0; i < 9; i++) {
            w.thing(0, 9);
        }
        Due.is("eight runs", w.heaps(255, 300, -1), 8);
        runs(w, 255, 300, 0, 1, 2, 3, 4, 5, 6, 7);
        Due.is("eight others", w.heaps(510, 300, 8), 7);
        Due.is("nine things", w.heaps(511, 300, -1), -5);
        w.mend(0, 8, 60);
        Due.is("six of 9 and two", w.heaps(255, 300, -1), 2);
        runs(w, 255, 300, 0, 0, 0, 0, 0, 0, 1, 1);
        w.mend(0, 8, 8);
        Due.is("none goes", w.heaps(255, 300, -1), -2);
        Due.is("nine things that do not go", w.heaps(511, 300, 0), -5);
    }

    private static void heapsRefused() {
        WithTheReds w = Due.four();
        Due.is("thing 4", w.heaps(15, 300, 4), -1);
        Due.is("thing -2", w.heaps(15, 300, -2), -1);
        Due.is("set", w.heaps(16, 300, -1), -1);
        Due.is("heat 2", w.heaps(15, 299, -1), -1);
        Due.is("heat 10", w.heaps(15, 1000, -1), -1);
        for (int i = 0; i < 6; i++) {
            w.thing(0, 1);
        }
        Due.is("BAD goes ahead of STATE", w.heaps(1023, 1000, -1), -1);
        Due.is("STATE goes ahead of NOT", w.heaps(1022, 300, 0), -5);
    }

    private static void cost() {
        WithTheReds w = Due.four();
        Due.is("one run", w.cost(15, 31, 1), 19);
        Due.is("two runs: dark with red", w.cost(15, 32, 7), 0);
        w.mend(0, 8, 5);
        // Nine of size in runs of five: two of them, 3 + 2 and 2 + 2.
        Due.is("one run does not go", w.cost(15, 31, 1), -2);
        Due.is("white and light, dark and red", w.cost(15, 32, 9), 0);
        w.mend(2, 4, 3);
        // White and dark are 6 now, so white goes with light or red, dark with the other.
        Due.is("two runs", w.cost(15, 32, 9), 0);
        w.mend(1, 4, 3);
        Due.is("two runs no more", w.cost(15, 32, 9), -2);
        Due.is("three: red with dark", w.cost(15, 33, 9), 0);
        w.mend(2, 4, 4);
        // Red must go with white (9) or light (9 / 2).
        Due.is("three: red with light", w.cost(15, 33, 9), 36);
        Due.is("four", w.cost(15, 34, 9), 0);
        Due.is("a price of 0", w.cost(15, 33, 0), 0);
        Due.is("a price of 99", w.cost(15, 33, 99), 396);
        Due.is("none", w.cost(0, 31, 99), 0);
        Due.is("spoilt at 7", w.cost(15, 76, 1), -2);
        Due.is("hot ones", w.cost(15, 63, 1), 9);
    }

    private static void costRefused() {
        WithTheReds w = Due.four();
        Due.is("n 0", w.cost(15, 30, 1), -1);
        Due.is("n 7", w.cost(15, 37, 1), -1);
        Due.is("n 6", w.cost(15, 36, 1), 0);
        Due.is("heat 2", w.cost(15, 21, 1), -1);
        Due.is("heat 10", w.cost(15, 101, 1), -1);
        Due.is("below 0", w.cost(15, -31, 1), -1);
        Due.is("price -1", w.cost(15, 31, -1), -1);
        Due.is("price 100", w.cost(15, 31, 100), -1);
        Due.is("set", w.cost(16, 31, 1), -1);
        for (int i = 0; i < 4; i++) {
            w.thing(0, 1);
        }
        Due.is("seven things", w.cost(127, 32, 1), 0);
        Due.is("eight things", w.cost(255, 32, 1), -5);
        Due.is("eight hot things", w.cost(255, 92, 1), -5);
        Due.is("BAD goes ahead of STATE", w.cost(255, 37, 1), -1);
        w.throwAway(0);
        Due.is("one thrown away", w.cost(127, 36, 1), -2);
    }

    private static void alone() {
        WithTheReds w = Due.four();
        Due.is("red", w.alone(3, 3), 9);
        w.mend(3, 2, 5);
        Due.is("red washed five times", w.alone(3, 3), 4);
        w.mend(3, 2, 99);
        Due.is("red washed 99 times", w.alone(3, 3), 0);
        Due.is("white", w.alone(0, 9), 0);
        Due.is("heat 2", w.alone(0, 2), -1);
        Due.is("heat 10", w.alone(0, 10), -1);
        Due.is("thing 4", w.alone(4, 3), -1);
        Due.is("thing -1", w.alone(-1, 3), -1);
        Due.is("it changes nothing", w.of(3, 2), 99);
    }

    private static void aloneForEver() {
        WithTheReds w = Due.four();
        Due.is("law", Due.tell(w, "n=40"), 1);
        Due.is("none, but once more at 40", w.alone(0, 3), 41);
        w.mend(0, 2, 40);
        Due.is("from 40", w.alone(0, 3), 1);
        w.mend(0, 2, 41);
        Due.is("from 41", w.alone(0, 3), 0);
        Due.is("law", Due.tell(w, "n=99"), 1);
        Due.is("some at 99", w.alone(0, 3), -2);
        Due.is("law", Due.tell(w, "n<99"), 1);
        Due.is("none at 99", w.alone(0, 3), 58);
        Due.is("law", Due.tell(w, "h=3"), 1);
        Due.is("always at 3", w.alone(0, 3), -2);
        Due.is("never at 4", w.alone(0, 4), 0);
    }
}
