/** Sentences with a bound about things and their numbers: promises 1 to 5. */
final class ThingEdges {
    private static final int MIN = Integer.MIN_VALUE, MAX = Integer.MAX_VALUE;

    private ThingEdges() {
    }

    static void all() {
        theLastCall();
        anEmptyBasket();
        thingsAsTheyCome();
        aThing();
        numbersOfAThing();
        numbersOfTheHousehold();
        becomesV();
        asOfMend();
        fromARow();
        theRowEnds();
        howManyCame();
    }

    private static void theLastCall() {
        Doc.says("An object is used for at most 512 calls after it has been made; what later calls answer is free.");
        Asked washed = Asked.many(1, 0, 1);
        for (int i = 0; i < 510; i++) {
            washed.due(0, "wash", 1, 31);
        }
        Due.is("calls", washed.due(510, "led", 3).calls(), 512);
        Asked changed = Asked.many(1, 0, 1);
        for (int i = 0; i < 510; i++) {
            changed.due(i == 0 ? 0 : (i + 1) % 2 + 1, "mend", 0, 1, i % 2 + 1);
        }
        Due.is("calls", changed.due(39, "undo").calls(), 512);
        Asked made = new Asked();
        for (int i = 0; i < 511; i++) {
            made.due(1, "row", i % 6, i % 5, i % 61);
        }
        Due.is("calls", made.due(-13, "put", 0, 60, 1).calls(), 512);
    }

    private static void anEmptyBasket() {
        Doc.says("An empty basket.");
        Asked a = new Asked();
        for (int what = 0; what <= 5; what++) {
            a.due(0, "count", what);
        }
        for (int what = 0; what <= 4; what++) {
            a.due(0, "led", what);
        }
        a.due(-1, "of", 0, 0).due(-1, "of", 0, 12).due(-1, "gives", 0, 3).due(-1, "bleach", 0).due(-1, "throwAway", 0);
        a.due(-1, "trace", 0).due(0, "act", 0, 0, 0).due(-1, "keep", 0, 0).due(-100, "law");
        a.due(-5, "undo").due(-5, "redo").due(-5, "back");
    }

    private static void thingsAsTheyCome() {
        Doc.says("THINGS 0 .. 9, as they come:");
        Asked a = new Asked().row(0, 0, 2, 5, 7);
        for (int i = 0; i <= 9; i++) {
            a.due(-1, "of", i, 0).due(i, "count", 0);
            // By one call or the other, the numbers go on.
            if (i % 2 == 0) {
                a.due(i, "thing", 2, 1);
            } else {
                a.due(1, "things", 0, 0, 1);
            }
            a.due(0, "of", i, 12).due(-1, "of", i + 1, 0);
        }
        a.due(10, "count", 0).due(2, "of", 9, 0).due(-1, "of", 10, 0).due(-1, "of", -1, 0);
    }

    private static void aThing() {
        Doc.says("A THING: its number. BAD, FULL: 10.");
        for (int colour = 0; colour <= 3; colour++) {
            for (int size = 1; size <= 9; size++) {
                new Asked().due(0, "thing", colour, size).due(colour, "of", 0, 0).due(size, "of", 0, 4);
            }
        }
        long[][] wrong = {{-1, 1}, {4, 1}, {MIN, 1}, {MAX, 1}, {0, 0}, {0, 10}, {0, -1}, {0, MIN}, {0, MAX}, {256, 1},
            {0, 257}};
        for (long[] args : wrong) {
            Twins.bad("thing", args);
            // BAD goes ahead of FULL.
            Twins.refused(Twins::tenThings, -1, "thing", args);
        }
        Asked.many(9, 0, 1).due(9, "thing", 0, 1).due(-3, "thing", 0, 1).due(10, "count", 0);
        Twins.refused(Twins::tenThings, -3, "thing", 0, 1);
        Twins.refused(Twins::tenThings, -3, "thing", 3, 9);
        // What is thrown away makes no room.
        Twins.tenThings().due(8, "throwAway", 9).due(-3, "thing", 0, 1);
    }

    private static void numbersOfAThing() {
        number("COLOUR (0 white, 1 light, 2 dark, 3 red)", 0, 0, 3);
        number("DYE (0 .. 9: how much it gives when new; 0 at first)", 1, 0, 9);
        number("WASHED (0 .. 99: how often; 0 at first)", 2, 0, 99);
        number("BEARS (3 .. 9: tens of degrees; 6 at first)", 3, 3, 9);
        number("SIZE (1 .. 9)", 4, 1, 9);
        number("DRIES (1 .. 99: tens of minutes; 12 at first)", 5, 1, 99);
        number("WHO (0 .. 8; 0 at first)", 6, 0, 8);
        number("BY (0 .. 30: the day; 7 at first).", 7, 0, 30);
    }

    private static void number(String sentence, int what, int least, int most) {
        Doc.says(sentence);
        // By thing() white of size 3; by things() dark, of DYE 5, of size 7.
        int[] first = {0, 0, 0, 6, 3, 12, 0, 7};
        int[] fromRow = {2, 5, 0, 6, 7, 12, 0, 7};
        Asked a = new Asked().row(0, 0, 2, 5, 7).due(0, "thing", 0, 3).due(1, "things", 0, 0, 1);
        a.due(first[what], "of", 0, what).due(fromRow[what], "of", 1, what);
        int was = first[what];
        for (int v = least; v <= most; v++) {
            a.due(was, "mend", 0, what, v).due(v, "of", 0, what);
            was = v;
        }
        a.due(fromRow[what], "of", 1, what);
        for (int v : new int[] {least - 1, most + 1, MIN, MAX, least - 256, most + 256}) {
            Twins.bad("mend", 0, what, v);
            Twins.bad("mend", 3, what, v);
            a.due(-1, "mend", 0, what, v).due(most, "of", 0, what);
        }
    }

    private static void numbersOfTheHousehold() {
        house("DRUM (1 .. 60; 15 at first)", 8, 1, 60, 15);
        house("CLOTH (0 .. 99: how much dye one catches; 6 at first)", 9, 0, 99, 6);
        house("DAY (1 .. 9: RUNS a day; 3 at first)", 10, 1, 9, 3);
        house("LINE (1 .. 60: how much SIZE hangs at once; 20 at first).", 11, 1, 60, 20);
    }

    private static void house(String sentence, int what, int least, int most, int first) {
        Doc.says(sentence);
        // Without any THING, too.
        Asked a = new Asked().due(first, "of", 0, what);
        int was = first;
        for (int v = least; v <= most; v++) {
            a.due(was, "mend", 0, what, v).due(v, "of", 0, what);
            was = v;
        }
        for (int v : new int[] {least - 1, most + 1, MIN, MAX, least - 256, most + 256}) {
            Twins.bad("mend", 0, what, v);
            a.due(-1, "mend", 0, what, v).due(most, "of", 0, what);
        }
    }

    private static void becomesV() {
        Doc.says("COLOUR (what 0), DYE (1), WASHED (2), BEARS (3), SIZE (4), DRIES (5), WHO (6), BY (7) of a THING, "
                + "DRUM (8), CLOTH (9), DAY (10), LINE (11; number 0 for these, another: BAD) becomes v: what it was. "
                + "BAD.");
        int[] first = {0, 0, 0, 6, 3, 12, 0, 7, 15, 6, 3, 20};
        int[] then = {1, 2, 3, 4, 5, 6, 7, 8, 9, 10, 4, 12};
        for (int what = 0; what <= 11; what++) {
            // Each what is a number of its own: the others stay.
            Asked a = new Asked().due(0, "thing", 0, 3).due(1, "thing", 0, 3);
            a.due(first[what], "mend", 0, what, then[what]).due(then[what], "mend", 0, what, then[what]);
            for (int other = 0; other <= 11; other++) {
                a.due(other == what ? then[other] : first[other], "of", 0, other);
                if (other < 8) {
                    a.due(first[other], "of", 1, other);
                }
            }
        }
        for (int what = 0; what <= 7; what++) {
            for (int number : new int[] {-1, 4, 10, MIN, MAX}) {
                Twins.bad("mend", number, what, 3);
            }
        }
        for (int what = 8; what <= 11; what++) {
            for (int number : new int[] {-1, 1, 3, 4, MIN, MAX}) {
                Twins.bad("mend", number, what, 3);
            }
        }
        for (int what : new int[] {-1, 12, 13, 14, MIN, MAX}) {
            Twins.bad("mend", 0, what, 0);
            Twins.bad("mend", 0, what, 3);
        }
    }

    private static void asOfMend() {
        Doc.says("As of mend() (0 to 11); of a THING 12 its TINT, 13 whether it is thrown away. BAD.");
        Asked a = Asked.four();
        a.due(0, "of", 3, 12).due(0, "of", 3, 13).due(9, "wash", 9, 30).due(9, "of", 0, 12).due(3, "throwAway", 0);
        a.due(1, "of", 0, 13).due(0, "of", 1, 13).due(9, "of", 0, 12);
        for (int what = 0; what <= 13; what++) {
            a.does("of", 0, what);
            for (int number : new int[] {-1, 4, 10, MIN, MAX}) {
                a.due(-1, "of", number, what);
            }
            if (what >= 8 && what <= 11) {
                a.due(-1, "of", 1, what).due(-1, "of", 3, what);
            }
        }
        for (int what : new int[] {-1, 14, MIN, MAX}) {
            Twins.bad("of", 0, what);
        }
        Twins.bad("of", 4, 12);
        Twins.bad("of", 1, 8);
    }

    private static void fromARow() {
        Doc.says("THINGS FROM A ROW of bytes, from place i on: by threes COLOUR, DYE, SIZE: n of them;");
        Asked a = new Asked().row(0, 0, 3, 9, 9, 0, 0, 1, 1, 5, 4);
        a.due(1, "things", 0, 0, 1).due(3, "of", 0, 0).due(9, "of", 0, 1).due(9, "of", 0, 4);
        a.due(2, "things", 0, 3, 2).due(0, "of", 1, 0).due(0, "of", 1, 1).due(1, "of", 1, 4);
        a.due(1, "of", 2, 0).due(5, "of", 2, 1).due(4, "of", 2, 4).due(3, "count", 0).due(0, "count", 3);
    }

    private static void theRowEnds() {
        Doc.says("it ends where the row is missing, ends (within a three, too), one is not as it may be, or THINGS are "
                + "FULL: those ahead came.");
        new Asked().due(0, "things", 0, 0, 1).due(0, "things", 5, 0, 10).due(0, "count", 0);
        // 0 to 9 elements: only whole threes.
        for (int length = 0; length <= 9; length++) {
            Asked a = new Asked().due(1, "row", 0, 0, length);
            for (int at = 2; at < length; at += 3) {
                a.due(1, "put", 0, at, 1);
            }
            a.due(length / 3, "things", 0, 0, 10).due(length / 3, "count", 0);
        }
        // What a longer ROW left there is no element of a shorter one.
        new Asked().row(0, 0, 0, 0, 1, 0, 0, 1).row(0, 0, 0, 0, 1, 0, 0).due(1, "things", 0, 0, 2);
        new Asked().row(0, 0, 0, 0, 1, 0, 0, 1).row(0, 0, 0, 0, 1, 0).due(1, "things", 0, 0, 2);
        new Asked().row(0, 0, 0, 0, 1, 0, 0, 1).row(0, 0).due(0, "things", 0, 0, 2);
        long[][] may = {{0, 0, 1}, {3, 0, 1}, {0, 9, 1}, {0, 0, 9}};
        for (long[] three : may) {
            new Asked().row(0, 0, 1, 1, 1, three[0], three[1], three[2], 1, 1, 1).due(3, "things", 0, 0, 3);
        }
        long[][] mayNot = {{-1, 0, 1}, {4, 0, 1}, {0, -1, 1}, {0, 10, 1}, {0, 0, 0}, {0, 0, 10}, {0, 0, -1}, {127, 0,
            1},
            {0, 127, 1}, {0, 0, 127}, {-128, 0, 1}, {0, -128, 1}, {0, 0, -128}};
        for (long[] three : mayNot) {
            Asked a = new Asked().row(0, 0, 1, 1, 1, three[0], three[1], three[2], 1, 1, 1);
            a.due(1, "things", 0, 0, 3).due(0, "things", 0, 3, 1).due(1, "things", 0, 6, 1).due(2, "count", 0);
        }
        Asked eight = Asked.many(8, 0, 1).row(0, 0, 0, 0, 1, 0, 0, 2, 0, 0, 3);
        eight.due(2, "things", 0, 0, 3).due(2, "of", 9, 4).due(0, "things", 0, 0, 3).due(10, "count", 0);
        Asked none = new Asked().due(1, "row", 0, 0, 30);
        for (int at = 2; at < 30; at += 3) {
            none.due(1, "put", 0, at, 1);
        }
        none.due(10, "things", 0, 0, 10).due(0, "things", 0, 0, 10);
    }

    private static void howManyCame() {
        Doc.says("THINGS FROM A ROW on a SHELF, from place i on, n (1 .. 10) of them: how many came (0 with i below "
                + "0). "
                + "BAD, -12 (no ROW of bytes; a SHELF that holds nothing is missing).");
        for (int shelf : new int[] {-1, 6, MIN, MAX}) {
            Twins.bad("things", shelf, 0, 1);
        }
        for (int n : new int[] {0, 11, -1, MIN, MAX}) {
            Twins.bad("things", 0, 0, n);
            Twins.bad("things", 5, 0, n);
            Twins.refused(Twins::tenThings, -1, "things", 0, 0, n);
            // BAD goes ahead of -12.
            Twins.bad("things", 1, 0, n);
            Twins.bad("things", 4, 0, n);
        }
        for (int shelf = 1; shelf <= 4; shelf++) {
            Twins.refused(Twins::busy, -12, "things", shelf, 0, 1);
            Twins.refused(Twins::busy, -12, "things", shelf, -1, 10);
        }
        Asked longs = new Asked().due(1, "row", 0, 3, 6).due(-12, "things", 0, 0, 1);
        longs.due(1, "row", 0, 2, 0).due(-12, "things", 0, 0, 1).due(1, "row", 0, 0, 0).due(0, "things", 0, 0, 1);
        for (int i : new int[] {-1, -3, MIN, MAX, MAX - 1, MAX - 2, 5, 3}) {
            Twins.refused(Twins::busy, 0, "things", 0, i, 1);
        }
        Twins.refused(Twins::busy, 0, "things", 5, 0, 1);
        Twins.refused(Twins::tenThings, 0, "things", 0, 0, 1);
        Asked a = new Asked().row(5, 0, 0, 0, 1, 0, 0, 2);
        a.due(1, "things", 5, 0, 1).due(0, "things", 5, -1, 1).due(0, "things", 5, 4, 1).due(1, "things", 5, 3, 10);
    }
}
