/** Sentences with a bound about what is pink, the rag and the draws: promises 24 to 29. */
final class PinkEdges {
    private static final int MIN = Integer.MIN_VALUE, MAX = Integer.MAX_VALUE;
    private static final int[] NO_SHELVES = {-1, 6, MIN, MAX};
    private static final int[] NO_SETS = {16, 17, 31, 1024, -1, -16, MIN, MAX};
    private static final int[] NO_HC = {0, 1, 20, 21, 29, 32, 39, 42, 92, 99, 100, 101, -30, -31, 300, MIN, MAX};
    private static final int[] NO_HEATS = {2, 10, 0, -3, 30, 90, MIN, MAX};

    private PinkEdges() {
    }

    static void all() {
        judged();
        whatDoesNotMatter();
        whichOne();
        heatOfIt();
        sock();
        shortsOnAShelf();
        withARag();
        weeksByASeed();
        thatStillGo();
        drawnBounds();
    }

    private static void judged() {
        Doc.says("JUDGED: the first that is not so; NOT.");
        Doc.says("JUDGED. NOT.");
        // White 13, light 6, dark 0, red 0.
        Asked a = Asked.four().row(1, 1, 13, 6, 0, 0).due(-2, "judge", 1, 15, 30).due(0, "judge", 1, 15, 31);
        long[] so = {13, 6, 0, 0};
        for (int thing = 3; thing >= 0; thing--) {
            for (long v : new long[] {so[thing] - 1, so[thing] + 1, -32768, 32767}) {
                a.does("put", 1, thing, v).due(thing, "judge", 1, 15, 30);
            }
        }
        // Those behind the first stay wrong till then. A short keeps its lowest bits.
        for (int thing = 0; thing <= 3; thing++) {
            a.does("put", 1, thing, so[thing] + 65536).due(thing < 3 ? thing + 1 : -2, "judge", 1, 15, 30);
        }
        a.due(0, "judge", 1, 15, 40).due(0, "judge", 1, 15, 91);
        // A RUN that does not GO, or SPOILS, is judged by its tints.
        a.does("mend", 0, 8, 1).due(-2, "judge", 1, 15, 30).does("mend", 0, 3, 3).row(1, 1, 17)
                .due(-2, "judge", 1, 15, 40);
        Asked ten = Asked.many(10, 0, 1).law("99").does("row", 0, 1, 10).due(0, "judge", 0, 1023, 30);
        for (int i = 0; i < 10; i++) {
            ten.due(i, "judge", 0, 1023, 30).does("put", 0, i, 891);
        }
        ten.due(-2, "judge", 0, 1023, 30).due(0, "judge", 0, 511, 30);
    }

    private static void whatDoesNotMatter() {
        Doc.says("PINK: a ROW of shorts: by how much THINGS (from 0 on) of a RUN were tinted (those not of it, those "
                + "without "
                + "an element do not matter):");
        // Only white and red are of it.
        Asked a = Asked.four().row(1, 1, 9, 77, 77, 0, 77).due(-2, "judge", 1, 9, 30).due(3, "heatOfIt", 1, 9);
        a.due(9, "sock", 1, 9, 3, 3).due(1, "judge", 1, 11, 30);
        for (int length = 0; length <= 4; length++) {
            // All wrong: the first one is, where there is an element.
            Asked b = Asked.four().does("row", 1, 1, length);
            for (int i = 0; i < length; i++) {
                b.does("put", 1, i, -5);
            }
            b.due(length == 0 ? -2 : 0, "judge", 1, 15, 30).due(length < 4 ? -2 : 3, "judge", 1, 8, 30);
            b.due(length == 0 ? 3 : -2, "heatOfIt", 1, 15).due(length == 0 ? 0 : -2, "sock", 1, 15, 3, 3);
            b.due(length == 0 ? 1 : 0, "which", 1, 7, 30, 0);
        }
        new Asked().does("row", 0, 1, 0).due(-2, "judge", 0, 0, 30).due(3, "heatOfIt", 0, 0)
                .due(0, "which", 0, 0, 30, 0);
        Asked.four().does("row", 0, 1, 60).due(-2, "judge", 0, 0, 30).due(-2, "judge", 0, 3, 30)
                .due(0, "judge", 0, 9, 30);
    }

    private static void whichOne() {
        Doc.says("WHICH ONE: which one more THING (not of the RUN; its own element does not matter) must have been "
                + "in it, so "
                + "that all is so: how many; the least (NOT).");
        Doc.says("WHICH ONE: how many (what 0), the least (1; NOT).");
        // White alone was tinted: by 9 of the red one, by 4 of the dark one, by 0 of the light one.
        Asked a = Asked.four().row(1, 1, 9, -1, -1, -1).due(1, "which", 1, 1, 30, 0).due(3, "which", 1, 1, 30, 1);
        a.does("put", 1, 0, 4).due(1, "which", 1, 1, 30, 0).due(2, "which", 1, 1, 30, 1);
        a.does("put", 1, 0, 0).due(1, "which", 1, 1, 30, 0).due(1, "which", 1, 1, 30, 1);
        a.does("put", 1, 0, 3).due(0, "which", 1, 1, 30, 0).due(-2, "which", 1, 1, 30, 1).due(1, "which", 1, 1, 31, 0);
        a.due(3, "which", 1, 1, 31, 1).does("put", 1, 0, 0).due(2, "which", 1, 1, 31, 0).due(1, "which", 1, 1, 31, 1);
        // One that is of the RUN is no more THING; all are of it: none.
        a.does("put", 1, 0, 13).due(0, "which", 1, 15, 30, 0).due(-2, "which", 1, 15, 30, 1);
        // At each heat, with a CLOTH and without: what the red one gives.
        for (int heat = 3; heat <= 9; heat++) {
            a.does("put", 1, 0, heat * 3).due(3, "which", 1, 1, heat * 10, 1).due(0, "which", 1, 1, heat * 10 + 1, 0);
            a.does("put", 1, 0, heat * 3 - 6).due(3, "which", 1, 1, heat * 10 + 1, 1);
        }
        // An empty RUN: any one does.
        a.due(4, "which", 1, 0, 30, 0).due(0, "which", 1, 0, 30, 1);
        new Asked().does("row", 1, 1, 0).due(0, "which", 1, 0, 30, 0).due(-2, "which", 1, 0, 30, 1);
        Asked ten = Asked.many(10, 0, 1).does("row", 1, 1, 10).due(9, "which", 1, 1, 30, 0)
                .due(1, "which", 1, 1, 30, 1);
        ten.due(1, "which", 1, 511, 30, 0).due(9, "which", 1, 511, 30, 1).due(10, "which", 1, 0, 30, 0);
        Twins.badIn("which", 3, new int[] {-1, 2, MIN, MAX}, 1, 5, 30, 0);
        Twins.refused(Twins::busy, -2, "which", 1, 15, 30, 1);
    }

    private static void heatOfIt() {
        Doc.says("HEAT OF IT: the least heat by which all is so; NOT.");
        Doc.says("HEAT OF IT, without a CLOTH. NOT.");
        // White and red: 9, 12, 15, 18, 21, 24, 27.
        Asked a = Asked.four().row(1, 1, 0);
        for (int heat = 3; heat <= 9; heat++) {
            a.does("put", 1, 0, heat * 3).due(heat, "heatOfIt", 1, 9).does("put", 1, 0, heat * 3 + 1)
                    .due(-2, "heatOfIt", 1, 9);
        }
        a.does("put", 1, 0, 6).due(-2, "heatOfIt", 1, 9).does("put", 1, 0, 30).due(-2, "heatOfIt", 1, 9);
        // Alike at all heats, or at some: the least.
        a.due(3, "heatOfIt", 1, 2).due(3, "heatOfIt", 1, 0).law("h>7?50;h").does("put", 1, 0, 50)
                .due(8, "heatOfIt", 1, 9);
        a.law("h>4?50;h").due(5, "heatOfIt", 1, 9);
        Asked b = Asked.four().law("(h=4|h=9)*20").row(1, 1, 20).due(4, "heatOfIt", 1, 9);
        b.does("mend", 0, 9, 99).due(4, "heatOfIt", 1, 9);
        Twins.refused(() -> Twins.busy().does("put", 1, 0, 77), -2, "heatOfIt", 1, 9);
    }

    private static void sock() {
        Doc.says("SOCK: what DYE (0 .. 9) of one told THING of it makes all so: the least; NOT.");
        Doc.says("SOCK (without a CLOTH, at a heat). NOT.");
        Asked a = Asked.four().row(1, 1, 0);
        for (int dye = 0; dye <= 9; dye++) {
            a.does("put", 1, 0, dye).due(dye, "sock", 1, 9, 3, 3).does("put", 1, 0, dye * 3)
                    .due(dye, "sock", 1, 9, 9, 3);
        }
        a.does("put", 1, 0, 10).due(-2, "sock", 1, 9, 3, 3).does("put", 1, 0, -1).due(-2, "sock", 1, 9, 3, 3);
        a.does("put", 1, 0, 28).due(-2, "sock", 1, 9, 9, 3).due(9, "of", 3, 1);
        // Several do: the least.
        a.does("put", 1, 0, 0).does("mend", 3, 2, 5).due(0, "sock", 1, 9, 3, 3).does("put", 1, 0, 4)
                .due(9, "sock", 1, 9, 3, 3);
        a.does("put", 1, 0, 5).due(-2, "sock", 1, 9, 3, 3).law("r>6").does("put", 1, 0, 1).due(7, "sock", 1, 9, 3, 3);
        a.does("mend", 0, 9, 99).due(7, "sock", 1, 9, 3, 3);
        // Its own element matters, too: a white sock tinted by 9 of the red one.
        Asked b = Asked.four().row(1, 1, 9, 9, 9, 5).due(-2, "sock", 1, 9, 3, 0).does("put", 1, 3, 0)
                .due(0, "sock", 1, 9, 3, 0);
        b.does("put", 1, 0, 8).due(-2, "sock", 1, 9, 3, 0);
        Twins.badIn("sock", 2, NO_HEATS, 1, 9, 0, 3);
        Twins.badIn("sock", 3, new int[] {-1, 4, 10, 31, 32, 35, MIN, MAX}, 1, 9, 3, 0);
        // Not of it.
        Twins.badIn("sock", 3, new int[] {1, 2}, 1, 9, 3, 0);
        Twins.bad("sock", 1, 0, 3, 0);
        Twins.refused(() -> Twins.busy().does("put", 1, 0, 77), -2, "sock", 1, 9, 3, 3);
    }

    private static void shortsOnAShelf() {
        Doc.says("pink (a ROW of shorts on a SHELF; BAD, -11, -12).");
        Object[][] calls = {{"judge", new long[] {0, 5, 30}}, {"which", new long[] {0, 5, 30, 0}},
            {"heatOfIt", new long[] {0, 5}}, {"sock", new long[] {0, 5, 3, 2}}};
        for (Object[] call : calls) {
            String name = (String) call[0];
            long[] args = (long[]) call[1];
            Twins.badIn(name, 0, NO_SHELVES, args);
            for (int shelf = 0; shelf <= 5; shelf++) {
                args[0] = shelf;
                // Bytes, then shorts, ints, booleans, a body, nothing.
                if (shelf != 1) {
                    Twins.refused(Twins::busy, shelf == 5 ? -11 : -12, name, args);
                }
                // BAD goes ahead of -11 and -12.
                Twins.badIn(name, 1, NO_SETS, args);
                if (args.length > 2) {
                    Twins.badIn(name, 2, name.equals("sock") ? NO_HEATS : NO_HC, args);
                }
            }
            args[0] = 0;
            new Asked().does("thing", 0, 1).does("thing", 0, 1).does("thing", 0, 1).does("row", 0, 3, 3)
                    .due(-12, name, args);
        }
    }

    private static void withARag() {
        Doc.says("TEST: with a rag one sees that a THING gives dye at heat 3, if it is t (1 .. 99) or more: which "
                + "THINGS "
                + "(bits) of a set go unseen, but tint a white one alone with them at a heat.");
        Doc.says("TEST (ht: 100 times the heat, and t). BAD.");
        // At 3 the dark one gives 4, the red one 9.
        Asked a = Asked.four();
        for (int heat = 3; heat <= 9; heat++) {
            a.due(0, "test", 15, heat * 100 + 1).due(0, "test", 15, heat * 100 + 4).due(4, "test", 15, heat * 100 + 5);
            a.due(4, "test", 15, heat * 100 + 9).due(12, "test", 15, heat * 100 + 10)
                    .due(12, "test", 15, heat * 100 + 99);
            a.due(8, "test", 11, heat * 100 + 99).due(0, "test", 3, heat * 100 + 99).due(-1, "test", 15, heat * 100);
        }
        // DYE 1 washed once gives none; what gives none at 3 may give some at 4.
        Asked b = Asked.many(2, 0, 1).law("h>3&s=1").due(0, "test", 3, 301).due(3, "test", 3, 401)
                .due(3, "test", 3, 999);
        b.due(0, "test", 3, 399).due(3, "test", 3, 499).law("99").due(0, "test", 3, 399).due(0, "test", 3, 999)
                .law("98").due(3, "test", 3, 399)
                .due(0, "test", 3, 398);
        b.law("h=3").due(0, "test", 3, 401).due(0, "test", 3, 499).due(3, "test", 3, 302);
        new Asked().due(0, "test", 0, 301).due(-1, "test", 1, 301);
        Asked.many(10, 0, 1).law("1").due(1023, "test", 1023, 302).due(512, "test", 512, 302)
                .due(-1, "test", 1024, 302);
        Twins.badIn("test", 0, NO_SETS, 0, 301);
        Twins.badIn("test", 1, new int[] {0, 1, 99, 201, 299, 300, 400, 500, 600, 700, 800, 900, 1000, 1001, -301,
            -399, MIN,
            MAX}, 5, 0);
    }

    /** The z ahead of the next THING, worked out without a wrap. */
    private static long next(long z) {
        return (z * 1103515245L + 12345) % (1L << 32);
    }

    private static boolean isIn(long z) {
        return (z >> 8) % 12 < 6;
    }

    private static void weeksByASeed() {
        Doc.says("DRAWN: n weeks (1 .. 30) by a SEED: z = z * 1103515245 + 12345 (an int; SEED at first) ahead of "
                + "each THING: "
                + "it is in the week's RUN, if (z >>> 8) % 12 is below 6");
        Doc.says("at a told heat, without a CLOTH, WASHED as now):");
        Doc.says("tints together of all weeks; how many weeks one was SPOILT.");
        for (int seed : new int[] {0, 1, -1, 2, 1103515245, MIN, MIN + 1, MAX, MAX - 1, 20261118}) {
            Asked a = Asked.four().does("mend", 0, 3, 4).does("mend", 3, 2, 1).does("mend", 0, 9, 99);
            long z = seed & 0xFFFFFFFFL;
            long tints = 0;
            long spoilt = 0;
            for (int n = 1; n <= 30; n++) {
                int set = 0;
                for (int thing = 0; thing < 4; thing++) {
                    z = next(z);
                    set |= isIn(z) ? 1 << thing : 0;
                }
                tints += a.answer("run", set, 50, 1);
                spoilt += set & 1;
                a.due(tints, "drawn", seed, n * 10 + 5, 0).due(spoilt, "drawn", seed, n * 10 + 5, 1);
                a.due(0, "drawn", seed, n * 10 + 4, 1);
            }
            a.due(0, "of", 0, 2).due(0, "of", 0, 12).due(0, "led", 0);
        }
    }

    private static void thatStillGo() {
        Doc.says("(of those that still GO, by numbers;");
        for (int seed = 1; seed <= 60; seed++) {
            // Sizes 1 to 9 and 1, a drum of 12, one thrown away; red ones give, white ones are tinted.
            Asked a = new Asked();
            for (int i = 0; i < 10; i++) {
                a.does("thing", i % 3 == 0 ? 3 : 0, i % 9 + 1).does("mend", i, 1, i);
            }
            a.does("mend", 0, 8, 12).does("throwAway", seed % 10);
            long z = seed;
            int set = 0;
            int size = 0;
            for (int i = 0; i < 10; i++) {
                // The draw goes on for one that is left out, too.
                z = next(z);
                if (isIn(z) && i != seed % 10 && size + i % 9 + 1 <= 12) {
                    set |= 1 << i;
                    size += i % 9 + 1;
                }
            }
            a.due(a.answer("run", set, 60, 1), "drawn", seed, 16, 0).due(1, "run", set, 60, 3);
        }
    }

    private static void drawnBounds() {
        Doc.says("DRAWN (nh: 10 times n, and the heat): tints (what 0), weeks (1). BAD.");
        for (int n = 1; n <= 30; n++) {
            Asked a = new Asked();
            for (int heat = 0; heat <= 9; heat++) {
                a.due(heat < 3 ? -1 : 0, "drawn", 1, n * 10 + heat, 0)
                        .due(heat < 3 ? -1 : 0, "drawn", 1, n * 10 + heat, 1);
            }
        }
        Twins.badIn("drawn", 1, new int[] {0, 3, 9, 10, 12, 300, 302, 310, 313, 319, 1000, 1003, -13, -3, MIN, MAX},
            7, 0, 0);
        Twins.badIn("drawn", 2, new int[] {-1, 2, MIN, MAX}, 7, 13, 0);
    }
}
