/** Sentences with a bound about days and the line: promises 18 to 23. */
final class WhenEdges {
    private static final int MIN = Integer.MIN_VALUE, MAX = Integer.MAX_VALUE;
    private static final int[] NO_SHELVES = {-1, 6, MIN, MAX};
    private static final int[] NO_SETS = {16, 17, 31, 1024, -1, -16, MIN, MAX};

    private WhenEdges() {
    }

    static void all() {
        aRowOfRuns();
        whichDay();
        late();
        soon();
        swap();
        ofLikePairsTheFirst();
        rowsRefused();
        roomOnTheLine();
        largerThanTheLine();
        oneBehindTheOther();
        dries();
        hungDryAll();
        rain();
        order();
        sixThingsAtMost();
    }

    private static void aRowOfRuns() {
        Doc.says("WHEN: a ROW of bytes on a SHELF: RUNS by numbers k of HEAPS, that is, for each THING (from 0 on) "
                + "in which "
                + "RUN it is (0 .. 19; -1: none):");
        Doc.says("when, the line.");
        Asked a = Asked.many(1, 0, 1).row(0, 0, 0);
        for (int run : new int[] {-128, -20, -2, -1, 0, 1, 18, 19, 20, 21, 127}) {
            boolean in = run >= 0 && run <= 19;
            a.does("put", 0, 0, run).due(in ? 0 : 1, "late", 0, 0).due(in ? run / 3 : -2, "soon", 0, 0);
            a.due(0, "late", 0, 1);
        }
        // Rows of all lengths: without an element a THING is in none, and elements without a THING are nothing.
        for (int length = 0; length <= 5; length++) {
            Asked b = Asked.many(4, 0, 1).due(1, "row", 5, 0, length);
            b.due(15 & -1 << length, "late", 5, 0).due(length < 4 ? -2 : 0, "soon", 5, 0).due(0, "late", 5, 1);
        }
        Asked.many(4, 0, 1).row(5, 0, 0, 0, 0, 0, 19, -1).due(0, "late", 5, 0).due(0, "soon", 5, 0).due(-2, "swap", 5);
        Asked.many(10, 0, 1).due(1, "row", 0, 0, 60).due(0, "late", 0, 0).due(0, "soon", 0, 0);
        Asked.many(10, 0, 1).due(1, "row", 0, 0, 9).due(512, "late", 0, 0).due(-2, "soon", 0, 0);
    }

    private static void whichDay() {
        Doc.says("by days: RUN k is on day k / DAY (cut).");
        for (int each = 1; each <= 9; each++) {
            Asked a = Asked.many(1, 0, 1).row(0, 0, 0).does("mend", 0, 10, each);
            for (int run = 0; run <= 19; run++) {
                a.does("put", 0, 0, run).due(run / each, "soon", 0, 0);
            }
        }
        Asked a = Asked.many(1, 0, 1).row(0, 0, 8).does("mend", 0, 10, 9).due(0, "soon", 0, 0).does("put", 0, 0, 9);
        a.due(1, "soon", 0, 0).does("put", 0, 0, 17).due(1, "soon", 0, 0).does("put", 0, 0, 18).due(2, "soon", 0, 0);
    }

    private static void late() {
        Doc.says("LATE: which THINGS (bits) are in none or on a day beyond BY; how many days together they are late "
                + "(those "
                + "in none not counted).");
        Doc.says("LATE: which (what 0), days together (1). BAD, -11, -12 (no ROW of bytes).");
        new Asked().due(1, "row", 0, 0, 4).due(0, "late", 0, 0).due(0, "late", 0, 1);
        Asked a = Asked.many(2, 0, 1).row(0, 0, 19, -1).does("mend", 0, 10, 1);
        for (int by = 0; by <= 30; by++) {
            a.does("mend", 0, 7, by).due(by < 19 ? 3 : 2, "late", 0, 0).due(by < 19 ? 19 - by : 0, "late", 0, 1);
        }
        a.does("mend", 0, 7, 0).does("put", 0, 1, 18).does("mend", 1, 7, 17).due(20, "late", 0, 1).due(3, "late", 0, 0);
        a.does("mend", 1, 7, 18).due(19, "late", 0, 1).due(1, "late", 0, 0);
        Asked ten = Asked.many(10, 0, 1).due(1, "row", 0, 0, 10).does("mend", 0, 10, 1);
        for (int i = 0; i < 10; i++) {
            ten.does("put", 0, i, 19).does("mend", i, 7, 0);
        }
        ten.due(1023, "late", 0, 0).due(190, "late", 0, 1);
        Twins.badIn("late", 0, NO_SHELVES, 0, 0);
        Twins.badIn("late", 1, new int[] {-1, 2, MIN, MAX}, 0, 0);
    }

    private static void soon() {
        Doc.says("SOON: the least day by which WHO has all THINGS of one's own in it (NOT: one is in none).");
        Doc.says("SOON for one. BAD, -11, -12; NOT (also: no THINGS).");
        new Asked().due(1, "row", 0, 0, 4).due(-2, "soon", 0, 0).due(-2, "soon", 0, 8);
        Asked a = Asked.many(4, 0, 1).row(0, 0, 0, 19, 5, -1).does("mend", 1, 6, 8).does("mend", 2, 6, 8);
        a.due(6, "soon", 0, 8).due(-2, "soon", 0, 0).due(-2, "soon", 0, 1).due(-2, "soon", 0, 7);
        a.does("put", 0, 1, 2).due(1, "soon", 0, 8).does("put", 0, 1, 20).due(-2, "soon", 0, 8);
        a.does("put", 0, 1, 0).does("put", 0, 2, -1).due(-2, "soon", 0, 8).does("mend", 3, 6, 1).due(0, "soon", 0, 0);
        a.due(-2, "soon", 0, 1);
        Twins.badIn("soon", 0, NO_SHELVES, 0, 0);
        Twins.badIn("soon", 1, new int[] {-1, 9, MIN, MAX}, 0, 0);
        Twins.refused(Twins::busy, -2, "soon", 0, 8);
    }

    private static void swap() {
        Doc.says("SWAP: of all pairs of RUNS (0 .. 19) that, exchanged, makes fewest days late together, fewer than "
                + "as it "
                + "is");
        Doc.says("20 times the lesser and the other; NOT.");
        Doc.says("SWAP. BAD, -11, -12; NOT.");
        // A day for each RUN; 0 is late in RUN 1, and 1 is not in RUN 1.
        Asked least = Asked.many(2, 0, 1).does("mend", 0, 10, 1).row(0, 0, 1, 0).does("mend", 0, 7, 0);
        least.does("mend", 1, 7, 1).due(1, "swap", 0);
        // RUN 19 is late, and RUNS 0 to 8 may not be later: 9 is the first that may.
        Asked most = Asked.many(10, 0, 1).does("mend", 0, 10, 1).row(0, 0, 0, 1, 2, 3, 4, 5, 6, 7, 8, 19);
        for (int i = 0; i < 9; i++) {
            most.does("mend", i, 7, i);
        }
        most.does("mend", 9, 7, 18).due(1, "late", 0, 1).due(9 * 20 + 19, "swap", 0).does("mend", 9, 7, 19);
        most.due(-2, "swap", 0);
        // As few as it is, is not fewer.
        Asked like = Asked.many(2, 0, 1).does("mend", 0, 10, 1).row(0, 0, 0, 1).does("mend", 0, 7, 0);
        like.does("mend", 1, 7, 0).due(1, "late", 0, 1).due(-2, "swap", 0);
        // None is in a RUN, or there is none.
        Asked.many(2, 0, 1).row(0, 0, -1, 20).due(-2, "swap", 0);
        new Asked().due(1, "row", 0, 0, 0).due(-2, "swap", 0);
        Twins.badIn("swap", 0, NO_SHELVES, 0);
        Twins.refused(Twins::busy, -2, "swap", 0);
    }

    private static void ofLikePairsTheFirst() {
        Doc.says("(of like ones the first):");
        // RUN 0 is wanted on day 0; RUNS 18 and 19 are late by days 18 and 19, and 1 to 17 are empty.
        Asked a = Asked.many(3, 0, 1).does("mend", 0, 10, 1).row(0, 0, 0, 18, 19).does("mend", 0, 7, 0);
        a.does("mend", 1, 7, 1).does("mend", 2, 7, 1);
        // 1 with 19 saves 18, 1 with 18 only 17.
        a.due(20 + 19, "swap", 0).does("mend", 2, 7, 2).due(20 + 18, "swap", 0).does("mend", 1, 7, 2)
                .due(20 + 19, "swap", 0);
        // RUNS 0 to 8 are on time for it, RUN 0 is the first; RUN 1, if 0 may not be later.
        Asked b = Asked.many(1, 0, 1).row(0, 0, 19).does("mend", 0, 7, 2).due(19, "swap", 0);
        b.does("thing", 0, 1).row(0, 0, 19, 0).does("mend", 1, 7, 0).due(20 + 19, "swap", 0);
    }

    private static void rowsRefused() {
        for (int shelf = 1; shelf <= 4; shelf++) {
            // Shorts, ints, booleans, a body; then longs.
            Twins.refused(Twins::busy, -12, "late", shelf, 0);
            Twins.refused(Twins::busy, -12, "soon", shelf, 0);
            Twins.refused(Twins::busy, -12, "swap", shelf);
            Twins.bad("late", shelf, 2);
            Twins.bad("soon", shelf, 9);
        }
        new Asked().due(1, "row", 0, 3, 4).due(-12, "late", 0, 0).due(-12, "soon", 0, 0).due(-12, "swap", 0);
        Twins.refused(Twins::busy, -11, "late", 5, 0);
        Twins.refused(Twins::busy, -11, "late", 5, 1);
        Twins.refused(Twins::busy, -11, "soon", 5, 8);
        Twins.refused(Twins::busy, -11, "swap", 5);
        Twins.bad("late", 5, 2);
        Twins.bad("soon", 5, 9);
    }

    private static void roomOnTheLine() {
        Doc.says("THE LINE: THINGS of a set are hung by numbers, each as soon as there is room (SIZES that hang "
                + "together no "
                + "more than LINE;");
        // Four of size 5, all of 120 minutes, on lines of all lengths.
        Asked a = Asked.many(4, 0, 5);
        for (int line = 5; line <= 60; line++) {
            a.does("mend", 0, 11, line);
            int together = Math.min(4, line / 5);
            for (int thing = 0; thing < 4; thing++) {
                a.due(thing / together * 120, "line", 15, thing, 0);
            }
        }
        // Only those of the set.
        a.does("mend", 0, 11, 5).due(0, "line", 8, 3, 0).due(120, "line", 12, 3, 0).due(240, "line", 14, 3, 0);
    }

    private static void largerThanTheLine() {
        Doc.says("one larger than LINE never: NOT for it and all behind it),");
        Asked a = Asked.four().does("mend", 0, 4, 1).does("mend", 1, 4, 6).does("mend", 0, 11, 6);
        a.due(0, "line", 15, 0, 0).due(120, "line", 15, 1, 0).due(240, "line", 15, 2, 0).due(360, "line", 15, -1, 0);
        a.does("mend", 0, 11, 5).due(0, "line", 15, 0, 0).due(120, "line", 15, 0, 1);
        for (int thing = -1; thing <= 3; thing++) {
            if (thing != 0) {
                a.due(-2, "line", 15, thing, 0).due(-2, "line", 15, thing, 1);
            }
        }
        a.due(0, "line", 13, 3, 0).due(120, "line", 13, -1, 0).due(-2, "line", 2, 1, 0).due(-2, "line", 2, -1, 0);
        a.due(1, "rain", 15, 0).due(0, "rain", 15, 120).due(0, "rain", 14, 0).due(-2, "order", 15, -1);
        Asked ones = Asked.many(2, 0, 1).does("mend", 0, 11, 1).due(0, "line", 3, 0, 0).due(120, "line", 3, 1, 0);
        ones.does("mend", 1, 4, 2).due(0, "line", 3, 0, 0).due(-2, "line", 3, 1, 0);
    }

    private static void oneBehindTheOther() {
        Doc.says("one behind the other (none ahead of one told earlier);");
        // 0 of size 5 fills the line; 1 of size 5 waits; 2 and 3 would have room beside none of them but wait, too.
        Asked a = Asked.many(4, 0, 1).does("mend", 0, 4, 4).does("mend", 1, 4, 5).does("mend", 0, 11, 5);
        a.due(0, "line", 15, 0, 0).due(120, "line", 15, 1, 0).due(240, "line", 15, 2, 0).due(240, "line", 15, 3, 0);
        // In the same minute is not ahead.
        a.does("mend", 1, 4, 1).due(0, "line", 15, 1, 0).due(120, "line", 15, 2, 0).due(120, "line", 15, 3, 0);
        // As soon as enough of those ahead are dry, however many there are.
        Asked b = Asked.many(4, 0, 1).does("mend", 0, 11, 3).does("mend", 0, 5, 1).does("mend", 1, 5, 3);
        b.does("mend", 2, 5, 2).due(10, "line", 15, 3, 0).does("mend", 3, 4, 2).due(20, "line", 15, 3, 0);
        b.does("mend", 3, 4, 3).due(30, "line", 15, 3, 0).due(150, "line", 15, 3, 1);
    }

    private static void dries() {
        Doc.says("a THING hangs DRIES times 10 minutes.");
        Asked a = Asked.many(2, 0, 9).does("mend", 0, 11, 9);
        for (int tens : new int[] {1, 2, 12, 98, 99}) {
            a.does("mend", 0, 5, tens).due(tens * 10, "line", 3, 0, 1).due(tens * 10, "line", 3, 1, 0);
            a.due(tens * 10 + 120, "line", 3, -1, 0);
        }
        // The longest there is.
        Asked ten = Asked.many(10, 0, 9).does("mend", 0, 11, 9);
        for (int i = 0; i < 10; i++) {
            ten.does("mend", i, 5, 99);
        }
        ten.due(8910, "line", 1023, 9, 0).due(9900, "line", 1023, 9, 1).due(9900, "line", 1023, -1, 0);
    }

    private static void hungDryAll() {
        Doc.says("In which minute one is hung, dry; when all are.");
        Doc.says("THE LINE: when a THING is hung (what 0), dry (1); when all are dry (thing -1). BAD; NOT (not of "
                + "the set, "
                + "too).");
        Asked a = Asked.four().due(0, "line", 15, 3, 0).due(120, "line", 15, 3, 1).due(120, "line", 15, -1, 0);
        a.due(120, "line", 15, -1, 1).due(0, "line", 0, -1, 0).due(-2, "line", 0, 0, 0).due(-2, "line", 14, 0, 1);
        a.does("mend", 1, 5, 99).due(990, "line", 15, -1, 0).due(120, "line", 13, -1, 0);
        // One alone; and whichever is the last to be dry.
        a.due(120, "line", 8, -1, 0).due(990, "line", 2, -1, 0).does("mend", 0, 5, 98).does("mend", 3, 5, 97);
        a.due(980, "line", 13, -1, 0).due(970, "line", 12, -1, 0).due(980, "line", 5, -1, 0);
        new Asked().due(0, "line", 0, -1, 0).due(-1, "line", 0, 0, 0);
        Asked.many(10, 0, 1).due(0, "line", 1023, 9, 0).due(-1, "line", 1023, 10, 0).due(-1, "line", 1024, -1, 0);
        Twins.badIn("line", 0, NO_SETS, 0, -1, 0);
        Twins.badIn("line", 1, new int[] {-2, 4, 10, 31, MIN, MAX}, 15, 0, 0);
        Twins.badIn("line", 2, new int[] {-1, 2, MIN, MAX}, 15, 0, 0);
        // BAD goes ahead of NOT.
        Twins.badIn("line", 2, new int[] {-1, 2}, 14, 0, 0);
        Twins.bad("line", 14, 4, 0);
        Twins.refused(Twins::busy, -2, "line", 14, 0, 0);
        Twins.refused(() -> Twins.busy().does("mend", 0, 11, 2), -2, "line", 15, -1, 0);
        Twins.refused(() -> Twins.busy().does("mend", 0, 11, 2), -2, "line", 15, 3, 0);
    }

    private static void rain() {
        Doc.says("RAIN at minute m (0 .. 999): which (bits) are still hanging then.");
        Doc.says("RAIN: which. BAD.");
        Asked a = Asked.many(3, 0, 5).does("mend", 0, 11, 10).does("mend", 0, 5, 2).does("mend", 1, 5, 3);
        int[] minutes = {0, 1, 19, 20, 29, 30, 139, 140, 141, 998, 999};
        int[] hanging = {3, 3, 3, 6, 6, 4, 4, 0, 0, 0, 0};
        for (int i = 0; i < minutes.length; i++) {
            a.due(hanging[i], "rain", 7, minutes[i]).due(0, "rain", 0, minutes[i]);
        }
        // Beyond 999 minutes nobody asks: the third from 980 on, to 1970.
        Asked b = Asked.many(3, 0, 9).does("mend", 0, 11, 9).does("mend", 0, 5, 49).does("mend", 1, 5, 49);
        b.does("mend", 2, 5, 99).due(1, "rain", 7, 489).due(2, "rain", 7, 490).due(2, "rain", 7, 979)
                .due(4, "rain", 7, 980);
        b.due(4, "rain", 7, 999).due(-1, "rain", 7, 1000);
        new Asked().due(0, "rain", 0, 0).due(0, "rain", 0, 999).due(-1, "rain", 1, 0);
        Twins.badIn("rain", 0, NO_SETS, 0, 0);
        Twins.badIn("rain", 1, new int[] {-1, 1000, MIN, MAX}, 15, 0);
    }

    private static void order() {
        Doc.says("ORDER: by which order of a set (6 THINGS at most, else STATE) all are dry soonest (of like ones "
                + "the first "
                + "by numbers): the minute; the k-th THING.");
        // Sizes 2, 3, 1 on a line of 3, in 10, 20, 30 minutes: 0 and 2 together, then 1; or 1, then 0 and 2.
        Asked a = Asked.many(3, 0, 2).does("mend", 1, 4, 3).does("mend", 2, 4, 1).does("mend", 0, 11, 3);
        a.does("mend", 0, 5, 1).does("mend", 1, 5, 2).does("mend", 2, 5, 3).due(60, "line", 7, -1, 0);
        order(a, 7, 50, 0, 2, 1);
        order(a, 5, 30, 0, 2);
        order(a, 2, 20, 1);
        order(a, 0, 0);
        // Two alike in all stay by numbers, and so do all if nothing is gained.
        Asked like = Asked.many(6, 0, 3).does("mend", 0, 11, 3);
        order(like, 63, 720, 0, 1, 2, 3, 4, 5);
        like.does("mend", 5, 5, 1);
        order(like, 63, 610, 0, 1, 2, 3, 4, 5);
        // The longest must be first: 0, 1 beside one another take 10 each, 2 takes 40.
        Asked b = Asked.many(3, 0, 1).does("mend", 0, 11, 2).does("mend", 0, 5, 2).does("mend", 1, 5, 2)
                .does("mend", 2, 5, 4);
        order(b, 7, 40, 0, 2, 1);
        b.does("mend", 2, 5, 5);
        order(b, 7, 50, 0, 2, 1);
    }

    private static void order(Asked a, int set, int minute, int... things) {
        a.due(minute, "order", set, -1);
        for (int k = 0; k < things.length; k++) {
            a.due(things[k], "order", set, k);
        }
        a.due(-2, "order", set, things.length);
    }

    private static void sixThingsAtMost() {
        Doc.says("ORDER: the minute (k -1), the k-th. BAD; STATE; NOT.");
        Asked a = Asked.many(10, 0, 1).due(120, "order", 63, -1).due(5, "order", 63, 5).due(9, "order", 1008, 5);
        a.due(-2, "order", 63, 6).due(-5, "order", 127, -1).due(-5, "order", 1023, 0).due(-5, "order", 127, 7);
        a.due(-1, "order", 127, -2).due(-1, "order", 1024, -1).due(-1, "order", 63, -2).due(0, "order", 0, -1);
        // STATE goes ahead of NOT.
        a.does("mend", 3, 4, 9).does("mend", 0, 11, 8).due(-2, "order", 63, -1).due(-2, "order", 63, 0);
        a.due(-5, "order", 127, -1).due(120, "order", 55, -1).due(-2, "order", 8, 0);
        new Asked().due(0, "order", 0, -1).due(-2, "order", 0, 0).due(-1, "order", 0, -2).due(-1, "order", 1, -1);
        Twins.badIn("order", 0, NO_SETS, 0, -1);
        Twins.badIn("order", 1, new int[] {-2, MIN}, 15, 0);
        Twins.refused(Twins::busy, -2, "order", 7, 3);
        Twins.refused(Twins::busy, -2, "order", 0, 0);
        Twins.refused(Twins::tenThings, -5, "order", 127, -1);
        Twins.refused(() -> Twins.busy().does("mend", 0, 11, 2), -2, "order", 15, -1);
    }
}
