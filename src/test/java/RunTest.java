/** Promises 9 to 14: run, tint, safe, together, heat, cloths. */
final class RunTest {
    public static void main(String[] args) {
        run();
        goes();
        runRefused();
        tint();
        safe();
        together();
        heat();
        cloths();
        Due.end();
    }

    /** At heat 3 the dark one gives 4, the red one 9. */
    private static void run() {
        WithTheReds w = Due.four();
        Due.is("loose", w.run(15, 30, 0), 13);
        Due.is("loose with a cloth", w.run(15, 31, 0), 7);
        Due.is("loose of the dark one with a cloth is 0 at least", w.run(4, 31, 0), 0);
        Due.is("tints: 13 + 6 + (13 - 4) / 10 + 0", w.run(15, 30, 1), 19);
        Due.is("tints with a cloth: 7 + 3 + 3 / 10", w.run(15, 31, 1), 10);
        Due.is("tints of one alone", w.run(8, 30, 1), 0);
        Due.is("nothing spoilt", w.run(15, 60, 2), 0);
        Due.is("all spoilt", w.run(15, 70, 2), 15);
        w.mend(1, 3, 9);
        w.mend(2, 3, 7);
        Due.is("spoilt at 7", w.run(15, 71, 2), 9);
        Due.is("spoilt at 8 of some", w.run(6, 80, 2), 4);
        Due.is("none at all", w.run(0, 91, 0), 0);
        Due.is("none at all goes", w.run(0, 91, 3), 1);
        w.mend(0, 9, 99);
        Due.is("a cloth for all of it", w.run(15, 91, 0), 0);
        w.mend(0, 9, 0);
        Due.is("a cloth for none of it", w.run(15, 31, 0), 13);
    }

    private static void goes() {
        WithTheReds w = Due.four();
        Due.is("9 of 15", w.run(15, 30, 3), 1);
        w.mend(0, 8, 9);
        Due.is("9 of 9", w.run(15, 30, 3), 1);
        w.mend(0, 8, 8);
        Due.is("9 of 8", w.run(15, 30, 3), 0);
        Due.is("7 of 8", w.run(13, 30, 3), 1);
        Due.is("what does not go has tints, too", w.run(15, 30, 1), 19);
        w.throwAway(0);
        Due.is("with one thrown away", w.run(1, 30, 3), 0);
        Due.is("without it", w.run(14, 30, 3), 1);
        Due.is("none at all", w.run(0, 30, 3), 1);
    }

    private static void runRefused() {
        WithTheReds w = Due.four();
        Due.is("what -1", w.run(15, 30, -1), -1);
        Due.is("what 4", w.run(15, 30, 4), -1);
        Due.is("a set with one that is none", w.run(16, 30, 0), -1);
        Due.is("a set below 0", w.run(-1, 30, 0), -1);
        Due.is("the lowest set", w.run(Integer.MIN_VALUE, 30, 0), -1);
        int[] wrong = {0, 1, 29, 32, 39, 42, 92, 99, 100, 101, -30, -31, 300, Integer.MIN_VALUE, Integer.MAX_VALUE};
        for (int hc : wrong) {
            Due.is("hc " + hc, w.run(15, hc, 0), -1);
            Due.is("tint hc " + hc, w.tint(15, hc, 0), -1);
            Due.is("safe hc " + hc, w.safe(15, hc, 0), -1);
        }
        for (int heat = 3; heat <= 9; heat++) {
            Due.is("heat " + heat, w.run(8, heat * 10, 0), 3 * heat);
        }
    }

    private static void tint() {
        WithTheReds w = Due.four();
        Due.is("white by all", w.tint(15, 30, 0), 13);
        Due.is("light by half, cut", w.tint(15, 30, 1), 6);
        Due.is("dark by a tenth, its own less", w.tint(15, 30, 2), 0);
        Due.is("dark at 9: 27 / 10", w.tint(15, 90, 2), 2);
        Due.is("red not at all", w.tint(15, 30, 3), 0);
        Due.is("white with a cloth", w.tint(9, 31, 0), 3);
        Due.is("0 at least: loose 3, own 9", w.tint(9, 31, 3), 0);
        w.mend(3, 0, 0);
        Due.is("a white that dyes is not tinted by its own", w.tint(9, 30, 3), 0);
        Due.is("but by another's", w.tint(12, 30, 3), 4);
        Due.is("the cloth catches ahead of its own: 13 - 6 - 9", w.tint(12, 31, 3), 0);
        Due.is("not of it", w.tint(8, 30, 0), -1);
        Due.is("no such thing", w.tint(15, 30, 4), -1);
        Due.is("thing -1", w.tint(15, 30, -1), -1);
        Due.is("thing 32 is not thing 0", w.tint(15, 30, 32), -1);
        Due.is("a set with one that is none", w.tint(31, 30, 0), -1);
    }

    private static void safe() {
        WithTheReds w = Due.four();
        Due.is("tinted by 9, 8 told", w.safe(9, 30, 8), 0);
        Due.is("tinted by 9, 9 told", w.safe(9, 30, 9), 1);
        Due.is("with a cloth by 3", w.safe(9, 31, 3), 1);
        Due.is("with a cloth, 2 told", w.safe(9, 31, 2), 0);
        Due.is("at 6 it bears", w.safe(1, 60, 0), 1);
        Due.is("at 7 it is spoilt", w.safe(1, 70, 99), 0);
        w.mend(0, 8, 2);
        Due.is("it does not go", w.safe(1, 30, 99), 0);
        Due.is("none is safe", w.safe(0, 90, 0), 1);
        w.mend(0, 8, 15);
        w.throwAway(0);
        Due.is("thrown away", w.safe(1, 30, 99), 0);
        Due.is("t -1", w.safe(2, 30, -1), -1);
        Due.is("t 100", w.safe(2, 30, 100), -1);
        Due.is("set", w.safe(16, 30, 0), -1);
    }

    private static void together() {
        WithTheReds w = Due.four();
        Due.is("white, no tint", w.together(0, 300), 2);
        Due.is("white, 4 of the dark one", w.together(0, 304), 6);
        Due.is("white, 3 is not enough", w.together(0, 303), 2);
        Due.is("white, 9 of the red one", w.together(0, 309), 14);
        Due.is("light by half of 9", w.together(1, 304), 13);
        Due.is("red with dark: 9 / 10 is 0", w.together(3, 300), 4);
        Due.is("red with dark at 6: 18 / 10 is 1", w.together(3, 600), 0);
        Due.is("at 7 all are spoilt", w.together(0, 799), 0);
        w.mend(0, 8, 4);
        Due.is("no room for white and another", w.together(0, 399), 0);
        Due.is("the others two by two", w.together(1, 399), 12);
        w.throwAway(2);
        Due.is("one is thrown away", w.together(1, 399), 8);
        Due.is("none goes with the one thrown away", w.together(2, 399), 0);
        Due.is("thing 4", w.together(4, 300), -1);
        Due.is("thing -1", w.together(-1, 300), -1);
        Due.is("heat 2", w.together(0, 299), -1);
        Due.is("heat 10", w.together(0, 1000), -1);
        Due.is("below 0", w.together(0, -300), -1);
        Due.is("ht 999", w.together(0, 999), 0);
    }

    private static void heat() {
        WithTheReds w = Due.four();
        Due.is("white and red, 9 told", w.heat(9, 9), 3);
        Due.is("white and red, 17 told", w.heat(9, 17), 5);
        Due.is("white and red, 18 told", w.heat(9, 18), 6);
        Due.is("white and red, 99 told", w.heat(9, 99), 6);
        Due.is("white and red, 8 told", w.heat(9, 8), -2);
        Due.is("none", w.heat(0, 0), 9);
        w.mend(1, 3, 9);
        Due.is("light alone", w.heat(2, 0), 9);
        w.mend(0, 8, 8);
        Due.is("too much", w.heat(15, 99), -2);
        Due.is("t -1", w.heat(1, -1), -1);
        Due.is("t 100", w.heat(1, 100), -1);
        Due.is("set", w.heat(16, 0), -1);
        // The greatest heat counts, even if a cooler one is not safe.
        WithTheReds odd = Due.four();
        Due.is("law", Due.tell(odd, "h=5?0;r"), 1);
        Due.is("only at 5", odd.heat(9, 0), 5);
    }

    private static void cloths() {
        WithTheReds w = Due.four();
        Due.is("9 less 2 * 6", w.cloths(9, 300), 2);
        Due.is("9 less 6 is 3", w.cloths(9, 303), 1);
        Due.is("9 is borne", w.cloths(9, 309), 0);
        Due.is("none", w.cloths(0, 900), 0);
        Due.is("spoilt", w.cloths(9, 799), -2);
        w.mend(0, 9, 1);
        Due.is("nine catch nine", w.cloths(9, 300), 9);
        Due.is("nine catch no ten", w.cloths(9, 400), -2);
        Due.is("12 less 9 is 3", w.cloths(9, 403), 9);
        w.mend(3, 1, 5);
        Due.is("ten would catch ten, nine leave one", w.cloths(9, 600), -2);
        Due.is("nine, if one is borne", w.cloths(9, 601), 9);
        w.mend(3, 1, 9);
        w.mend(0, 9, 0);
        Due.is("they catch nothing", w.cloths(9, 300), -2);
        w.mend(0, 8, 4);
        Due.is("it does not go", w.cloths(9, 399), -2);
        Due.is("heat 2", w.cloths(9, 200), -1);
        Due.is("heat 10", w.cloths(9, 1000), -1);
        Due.is("set", w.cloths(16, 300), -1);
    }
}
