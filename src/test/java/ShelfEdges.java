/** Sentences with a bound about bodies, acts, shelves and answers: promises 38 to 47. */
final class ShelfEdges {
    private static final int MIN = Integer.MIN_VALUE, MAX = Integer.MAX_VALUE;
    private static final long NO = Long.MIN_VALUE;
    private static final int[] NO_SHELVES = {-1, 6, MIN, MAX};
    // On busy(): bytes, shorts, ints, booleans, a body, nothing.
    private static final int BYTES = 0, SHORTS = 1, INTS = 2, BOOLEANS = 3, BODY = 4, NOTHING = 5;

    private ShelfEdges() {
    }

    static void all() {
        fiftyBodies();
        noSuchAct();
        theTrace();
        sixShelves();
        keep();
        sortsAndSizes();
        lowestBits();
        elements();
        put();
        element();
        shift();
        asTheyAllWereBefore();
        taken();
        howMany();
        answers();
    }

    private static void fiftyBodies() {
        Doc.says("BODIES 0 .. 49 are kept by call, of KINDS:");
        Doc.says("A BODY of a KIND (0 .. 7) is kept: its number. BAD, FULL.");
        Asked a = new Asked();
        for (int i = 0; i < 50; i++) {
            a.due(i, "body", i % 8).due(i + 1, "count", 4).due(-1, "keep", 0, i + 1).due(1, "keep", 0, i);
            a.due(i % 8, "taken", 0, i % 8);
        }
        a.due(-3, "body", 0).due(-3, "body", 7).due(-1, "body", 8).due(50, "count", 4)
                .due((49 + 3) * 2, "act", 49, 1, 0);
        a.due(0, "act", 50, 1, 0);
        Twins.badIn("body", 0, new int[] {-1, 8, MIN, MAX}, 0);
        Twins.refused(Twins::fiftyBodies, -3, "body", 0);
        Twins.refused(Twins::fiftyBodies, -3, "body", 7);
        Twins.refused(Twins::fiftyBodies, -1, "body", 8);
        Twins.refused(Twins::fiftyBodies, -1, "body", -1);
    }

    private static void noSuchAct() {
        Doc.says("An ACT (0 .. 3) of a BODY with x. 0, and no TRACE then: no such BODY, ACT.");
        long[][] wrong = {{-1, 0, 5}, {3, 0, 5}, {50, 0, 5}, {MIN, 0, 5}, {MAX, 0, 5}, {0, -1, 5}, {0, 4, 5}, {0, MIN,
            5},
            {0, MAX, 5}, {3, 4, 5}};
        for (long[] args : wrong) {
            Asked a = Twins.busy().due(10, "count", 5).due(61, "trace", 0).due(0, "act", args).due(0, "count", 5);
            a.due(-1, "trace", 0).due(-1, "trace", 9).due(0, "act", args);
            // Of all else it changes nothing: two that begin without a TRACE.
            Twins.refused(() -> Twins.busy().does("act", -1, 0, 0), 0, "act", args);
        }
        // An ACT may well answer 0, and its TRACE is kept.
        Asked b = Twins.busy().due(0, "act", 2, 0, -2).due(1, "count", 5).due(1, "trace", 0).due(5, "act", 2, 3, 2);
    }

    private static void theTrace() {
        Doc.says("THE TRACE: numbers of the bodies that ran in the latest act(), as they began; the first 24 are "
                + "kept.");
        Doc.says("THE TRACE's i-th body. BAD.");
        Asked a = Twins.busy();
        int[] labelTells = {61, 2, 41, 30, 10, 1, 60, 40, 11, 1};
        for (int i = 0; i < labelTells.length; i++) {
            a.due(labelTells[i], "trace", i);
        }
        for (int i : new int[] {-1, 10, 11, 23, 24, 25, MIN, MAX}) {
            a.due(-1, "trace", i);
            Twins.bad("trace", i);
        }
        // Only the latest: a shorter one leaves nothing of the longer behind it.
        a.does("act", 2, 2, 0).due(1, "count", 5).due(11, "trace", 0).due(-1, "trace", 1).due(-1, "trace", 9);
        a.does("act", 0, 1, 0).due(6, "count", 5);
        int[] pinkTints = {80, 10, 81, 70, 1, 11};
        for (int i = 0; i < pinkTints.length; i++) {
            a.due(pinkTints[i], "trace", i);
        }
        a.due(-1, "trace", 6);
        new Asked().due(-1, "trace", 0).due(0, "count", 5);
    }

    private static void sixShelves() {
        Doc.says("SHELVES 0 .. 5 each hold nothing (at first), a BODY, or a ROW:");
        Doc.says("The host's REFUSALS: -11 nothing is there where something is wanted; -12 it is of another kind; "
                + "-13 a place "
                + "that is not there; -14 a size below 0.");
        Asked a = new Asked().due(0, "body", 0);
        for (int shelf = 0; shelf <= 5; shelf++) {
            a.due(-11, "taken", shelf, 0).due(-11, "put", shelf, 0, 0).due(NO, "element", shelf, 0)
                    .due(-11, "late", shelf, 0);
            a.due(1, "keep", shelf, 0).due(0, "taken", shelf, 0).due(-12, "put", shelf, 0, 0)
                    .due(-12, "late", shelf, 0);
            a.due(-14, "row", shelf, 2, -1).due(1, "row", shelf, 2, 1).due(-12, "taken", shelf, 0)
                    .due(1, "put", shelf, 0, 0);
            a.due(-13, "put", shelf, 1, 0).due(0, "element", shelf, 0).due(-12, "late", shelf, 0);
            a.due(1, "keep", shelf, -1).due(-11, "taken", shelf, 0).due(1, "row", shelf, 2, 1);
        }
        for (int shelf : NO_SHELVES) {
            a.due(-1, "taken", shelf, 0).due(-1, "put", shelf, 0, 0).due(NO, "element", shelf, 0)
                    .due(-1, "late", shelf, 0);
            a.due(-1, "keep", shelf, 0).due(-1, "row", shelf, 2, 1);
        }
    }

    private static void keep() {
        Doc.says("A SHELF holds nothing (body -1), or a BODY: 1. BAD.");
        Asked a = Twins.fiftyBodies().due(1, "keep", NOTHING, 49).due(49 % 8, "taken", NOTHING, 0)
                .due(-1, "keep", NOTHING, 50);
        a.due(1, "keep", NOTHING, 0).due(7, "taken", NOTHING, 0).due(1, "keep", NOTHING, -1)
                .due(-11, "taken", NOTHING, 0);
        a.due(1, "keep", NOTHING, -1).due(-1, "keep", NOTHING, -2).due(1, "keep", BYTES, -1)
                .due(NO, "element", BYTES, 0);
        Twins.badIn("keep", 0, NO_SHELVES, 0, 0);
        Twins.badIn("keep", 0, NO_SHELVES, 0, -1);
        for (int shelf = BYTES; shelf <= NOTHING; shelf++) {
            Twins.badIn("keep", 1, new int[] {-2, 3, 50, MIN, MAX}, shelf, 0);
        }
        new Asked().due(-1, "keep", 0, 0).due(1, "keep", 0, -1);
    }

    private static void sortsAndSizes() {
        Doc.says("of 0 bytes, 1 shorts, 2 ints, 3 longs, 4 booleans, of 0 .. 60 elements, 0 at first (false);");
        Doc.says("A SHELF holds a ROW: 1. BAD (sort, n above 60); -14.");
        for (int sort = 0; sort <= 4; sort++) {
            for (int n : new int[] {0, 1, 2, 59, 60}) {
                Asked a = new Asked().due(1, "row", sort, sort, n).due(NO, "element", sort, n)
                        .due(-13, "put", sort, n, 1);
                for (int i = 0; i < n; i++) {
                    a.due(0, "element", sort, i).due(1, "put", sort, i, 1);
                }
                // A ROW again: of 0, whatever was there, shorter or longer.
                a.due(1, "row", sort, 4 - sort, 60);
                for (int i = 0; i < 60; i++) {
                    a.due(0, "element", sort, i);
                }
            }
        }
        for (int shelf = BYTES; shelf <= NOTHING; shelf++) {
            Twins.badIn("row", 1, new int[] {-1, 5, MIN, MAX}, shelf, 0, 1);
            Twins.badIn("row", 2, new int[] {61, 256, MAX}, shelf, 0, 0);
            Twins.refused(Twins::busy, -14, "row", shelf, 0, -1);
            Twins.refused(Twins::busy, -14, "row", shelf, 4, MIN);
        }
        Twins.badIn("row", 0, NO_SHELVES, 0, 0, 1);
        // BAD goes ahead of -14.
        Twins.badIn("row", 0, NO_SHELVES, 0, 0, -1);
        Twins.badIn("row", 1, new int[] {-1, 5, MIN, MAX}, 0, 0, -1);
    }

    private static void lowestBits() {
        Doc.says("what is put in keeps its lowest bits (a boolean: whether it is not 0; 1 or 0).");
        long[] values = {0, 1, -1, 2, 127, 128, 255, 256, 257, -128, -129, -256, 32767, 32768, 65535, 65536, -32768,
            -32769,
            2147483647L, 2147483648L, 4294967295L, 4294967296L, -2147483648L, -2147483649L, Long.MAX_VALUE,
            Long.MAX_VALUE - 1, NO, NO + 1, 1L << 40, 0x123456789ABCDEFL};
        for (int sort = 0; sort <= 4; sort++) {
            Asked a = new Asked().due(1, "row", 0, sort, values.length);
            for (int i = 0; i < values.length; i++) {
                long v = values[i];
                long[] kept = {(byte) v, (short) v, (int) v, v, v == 0 ? 0 : 1};
                a.due(1, "put", 0, i, v).due(kept[sort], "element", 0, i).due(0, "element", 0, 0);
            }
            // Put again, what was there leaves nothing.
            a.due(1, "put", 0, 2, 5).due(sort == 4 ? 1 : 5, "element", 0, 2).due(1, "put", 0, 2, 0)
                    .due(0, "element", 0, 2);
        }
    }

    private static void elements() {
        Doc.says("acts, shelves.");
        // A ROW of one SHELF is not another's, and a row of bytes tells bytes.
        Asked a = new Asked();
        for (int shelf = 0; shelf <= 5; shelf++) {
            a.row(shelf, 0, shelf + 1, 250);
        }
        for (int shelf = 0; shelf <= 5; shelf++) {
            a.due(shelf + 1, "element", shelf, 0).due(-6, "element", shelf, 1).due(NO, "element", shelf, 2);
        }
    }

    private static void put() {
        Doc.says("Element i of a ROW becomes v: 1. BAD, -11, -12, -13.");
        Asked a = new Asked().due(1, "row", 5, 3, 60).due(1, "put", 5, 0, 7).due(1, "put", 5, 59, 8)
                .due(-13, "put", 5, 60, 9);
        a.due(-13, "put", 5, -1, 9).due(7, "element", 5, 0).due(8, "element", 5, 59).due(0, "element", 5, 1);
        for (int i : new int[] {-1, 5, 59, 60, MIN, MAX}) {
            Twins.refused(Twins::busy, -13, "put", BYTES, i, 3);
            // What is named first goes ahead: -12, -11, BAD.
            Twins.refused(Twins::busy, -12, "put", BODY, i, 3);
            Twins.refused(Twins::busy, -11, "put", NOTHING, i, 3);
            Twins.badIn("put", 0, NO_SHELVES, 0, i, 3);
        }
        Twins.refused(Twins::busy, -13, "put", BOOLEANS, 3, 3);
        Twins.refused(Twins::busy, -12, "put", BODY, 0, 3);
        Twins.refused(Twins::busy, -11, "put", NOTHING, 0, 3);
        Twins.badIn("put", 0, NO_SHELVES, 0, 0, 3);
        new Asked().due(1, "row", 0, 0, 0).due(-13, "put", 0, 0, 1);
    }

    private static void element() {
        Doc.says("Element i of a ROW; Long.MIN_VALUE: BAD, -11 to -13.");
        Asked a = Twins.busy().due(1, "element", BYTES, 0).due(-1, "element", BYTES, 4).due(NO, "element", BYTES, 5);
        a.due(NO, "element", BYTES, -1).due(NO, "element", BODY, 0).due(NO, "element", NOTHING, 0);
        for (int i : new int[] {-1, 5, 60, MIN, MAX}) {
            for (int shelf : new int[] {-1, BYTES, SHORTS, INTS, BOOLEANS, BODY, NOTHING, 6, MIN, MAX}) {
                Twins.refused(Twins::busy, NO, "element", shelf, i);
            }
        }
        for (int shelf : NO_SHELVES) {
            Twins.refused(Twins::busy, NO, "element", shelf, 0);
        }
        // A long may be just that number, too.
        new Asked().row(0, 3, NO, 1).due(NO, "element", 0, 0).due(1, "element", 0, 1);
    }

    private static void shift() {
        Doc.says("n elements of a ROW from i on come to another one (or the same) from j on,");
        Doc.says("before: n. BAD, -11 (either), -12 (no ROWS, or of unlike sorts), -13 (n below 0, too).");
        for (int sort = 0; sort <= 4; sort++) {
            Asked a = new Asked().row(0, sort, 1, 0, 1, 1).row(5, sort, 0, 0, 0);
            a.due(3, "shift", 0, 1, 5, 0, 3).due(0, "element", 5, 0).due(1, "element", 5, 1).due(1, "element", 5, 2);
            a.due(-13, "shift", 0, 2, 5, 0, 3).due(-13, "shift", 0, 1, 5, 1, 3).due(1, "shift", 0, 3, 5, 0, 1);
            a.due(1, "element", 5, 0).due(0, "shift", 0, 4, 5, 3, 0).due(-13, "shift", 0, 5, 5, 0, 0);
            a.due(-13, "shift", 0, 0, 5, 4, 0).due(1, "element", 0, 0).due(0, "element", 0, 1);
            for (int other = 0; other <= 4; other++) {
                a.due(1, "row", 4, other, 4).due(other == sort ? 1 : -12, "shift", 0, 0, 4, 0, 1);
                a.due(other == sort ? -13 : -12, "shift", 4, 9, 0, 0, 1);
            }
        }
        Asked all = new Asked().due(1, "row", 0, 2, 60).due(1, "row", 1, 2, 60).due(1, "put", 0, 0, 3)
                .due(1, "put", 0, 59, 4);
        all.due(60, "shift", 0, 0, 1, 0, 60).due(3, "element", 1, 0).due(4, "element", 1, 59)
                .due(-13, "shift", 0, 0, 1, 0, 61);
        new Asked().due(1, "row", 0, 2, 0).due(0, "shift", 0, 0, 0, 0, 0).due(-13, "shift", 0, 0, 0, 0, 1);
        long[][] noPlace = {{-1, 0, 1}, {0, -1, 1}, {5, 0, 1}, {0, 5, 1}, {0, 0, 6}, {3, 0, 3}, {0, 3, 3}, {6, 0, 0},
            {0, 6, 0},
            {0, 0, -1}, {0, 0, MIN}, {5, 5, -1}, {MAX, 0, 1}, {0, MAX, 1}, {MIN, 0, 1}, {0, MIN, 1}, {0, 0, MAX}, {1,
                1, MAX},
            {MAX, MAX, MAX}, {MAX, 0, MIN}, {MIN, MIN, MIN}, {-1, -1, 0}};
        for (long[] p : noPlace) {
            Twins.refused(Twins::busy, -13, "shift", BYTES, p[0], BYTES, p[1], p[2]);
            Twins.refused(Twins::busy, -12, "shift", BYTES, p[0], SHORTS, p[1], p[2]);
            Twins.refused(Twins::busy, -11, "shift", NOTHING, p[0], SHORTS, p[1], p[2]);
            Twins.bad("shift", BYTES, p[0], 6, p[1], p[2]);
        }
        int[][] unlike = {{BYTES, SHORTS}, {SHORTS, INTS}, {INTS, BOOLEANS}, {BOOLEANS, BYTES}, {BODY, BYTES}, {BYTES,
            BODY},
            {BODY, BODY}};
        for (int[] two : unlike) {
            Twins.refused(Twins::busy, -12, "shift", two[0], 0, two[1], 0, 0);
        }
        for (int shelf = BYTES; shelf <= NOTHING; shelf++) {
            Twins.refused(Twins::busy, -11, "shift", shelf, 0, NOTHING, 0, 0);
            Twins.refused(Twins::busy, -11, "shift", NOTHING, 0, shelf, 0, 0);
            Twins.badIn("shift", 0, NO_SHELVES, 0, 0, shelf, 0, 0);
            Twins.badIn("shift", 2, NO_SHELVES, shelf, 0, 0, 0, 0);
        }
    }

    private static void asTheyAllWereBefore() {
        Doc.says("as they all were");
        for (int i = 0; i <= 6; i++) {
            for (int j = 0; j <= 6; j++) {
                int n = 6 - Math.max(i, j);
                Asked a = new Asked().row(2, 2, 10, 11, 12, 13, 14, 15).due(n, "shift", 2, i, 2, j, n);
                for (int at = 0; at < 6; at++) {
                    a.due(at >= j && at < j + n ? 10 + at - j + i : 10 + at, "element", 2, at);
                }
            }
        }
    }

    private static void taken() {
        Doc.says("What a SHELF holds, taken for a BODY of KIND k (0 .. 7), or under it: its KIND. BAD, -11, -12.");
        int[][] over = {{0}, {0, 1}, {0, 2}, {0, 2, 3}, {0, 1, 4}, {0, 2, 3, 5}, {0, 6}, {0, 6, 7}};
        for (int kind = 0; kind <= 7; kind++) {
            Asked a = new Asked().due(0, "body", kind).due(1, "keep", 3, 0);
            for (int k = 0; k <= 7; k++) {
                boolean is = false;
                for (int one : over[kind]) {
                    is |= one == k;
                }
                a.due(is ? kind : -12, "taken", 3, k);
            }
            a.due(-1, "taken", 3, -1).due(-1, "taken", 3, 8);
        }
        for (int k : new int[] {-1, 8, MIN, MAX}) {
            // BAD goes ahead of -11 and -12.
            for (int shelf = BYTES; shelf <= NOTHING; shelf++) {
                Twins.bad("taken", shelf, k);
            }
        }
        Twins.badIn("taken", 0, NO_SHELVES, 0, 0);
        for (int k = 0; k <= 7; k++) {
            Twins.refused(Twins::busy, -11, "taken", NOTHING, k);
            Twins.refused(Twins::busy, -12, "taken", BYTES, k);
            Twins.refused(Twins::busy, -12, "taken", BOOLEANS, k);
        }
        Twins.refused(Twins::busy, -12, "taken", BODY, 4);
    }

    private static void howMany() {
        Doc.says("How many: 0 THINGS, 1 not thrown away, 2 bytes on THE TAPE, 3 changes that may be UNDONE, 4 "
                + "BODIES, 5 bodies "
                + "that ran in the latest act() (all, kept or not). BAD.");
        int[] busy = {4, 3, 2, 3, 3, 10};
        Asked a = Twins.busy();
        for (int what = 0; what < busy.length; what++) {
            a.due(busy[what], "count", what);
        }
        Twins.tenThings().due(10, "count", 0).due(9, "count", 1);
        Twins.fullTape().due(120, "count", 2);
        Twins.fiftyBodies().due(50, "count", 4);
        Twins.badIn("count", 0, new int[] {-1, 6, MIN, MAX}, 0);
    }

    private static void answers() {
        Doc.says("Answers, of several the one that the call's own line names first, else the one named first here: "
                + "BAD (-1): no "
                + "such number, or it is not as said; NOT (-2): as told; FULL (-3); STATE (-5): as told; -11 to -14. "
                + "VOID is "
                + "-2000000000. What is answered so changes nothing. All memory is the class's own.");
        Due.is("BAD", WithTheReds.BAD, -1);
        Due.is("NOT", WithTheReds.NOT, -2);
        Due.is("FULL", WithTheReds.FULL, -3);
        Due.is("STATE", WithTheReds.STATE, -5);
        Due.is("VOID", WithTheReds.VOID, -2000000000);
        // Two objects share nothing.
        Asked a = Twins.busy();
        Asked b = new Asked();
        for (int what = 0; what <= 5; what++) {
            b.due(0, "count", what);
        }
        b.due(-11, "taken", BODY, 0).due(-5, "back").due(-5, "undo").due(0, "act", 0, 0, 0).due(15, "of", 0, 8);
        a.due(10, "count", 5).due(20, "of", 0, 8).due(4, "count", 0);
    }
}
