/** Sentences with a bound about a run in thought: promises 9 to 17. */
final class RunEdges {
    private static final int MIN = Integer.MIN_VALUE, MAX = Integer.MAX_VALUE;
    private static final int[] NO_SETS = {16, 17, 31, 1024, -1, -16, MIN, MAX};
    private static final int[] NO_THINGS = {-1, 4, 10, 31, 32, MIN, MAX};
    private static final int[] NO_HC = {0, 1, 20, 21, 29, 32, 39, 42, 92, 99, 100, 101, -30, -31, 300, MIN, MAX};
    private static final int[] NO_HT = {0, 3, 30, 200, 299, 1000, 1099, -300, -350, MIN, MAX};
    private static final int[] NO_TINTS = {-1, 100, MIN, MAX};

    private RunEdges() {
    }

    static void all() {
        aSetOfThings();
        heatAndCloth();
        itGoes();
        whatIsLoose();
        tinted();
        lessItsOwn();
        spoilt();
        inThought();
        tint();
        safe();
        together();
        heat();
        cloths();
        fewestRuns();
        firstByTheseNumbers();
        eightThingsAtMost();
        cost();
        sevenThingsAtMost();
        alone();
    }

    private static void aSetOfThings() {
        Doc.says("a run in thought (sets: bits of THINGS; a set with one that is none: BAD).");
        for (int n = 0; n <= 10; n++) {
            Asked a = Asked.many(n, 0, 1);
            int all = (1 << n) - 1;
            a.due(1, "run", all, 30, 3).due(-1, "run", all + 1, 30, 3).due(1, "run", 0, 30, 3);
            a.due(1, "safe", all, 30, 0).due(-1, "safe", all + 1, 30, 0);
            a.due(n == 0 ? 9 : 6, "heat", all, 0).due(-1, "heat", all + 1, 0);
            a.due(0, "wash", all, 30).due(-1, "wash", all + 1, 30);
        }
        Twins.badIn("run", 0, NO_SETS, 0, 30, 0);
        Twins.badIn("tint", 0, NO_SETS, 0, 30, 0);
        Twins.badIn("safe", 0, NO_SETS, 0, 30, 0);
        Twins.badIn("heat", 0, NO_SETS, 0, 0);
        Twins.badIn("cloths", 0, NO_SETS, 0, 300);
        Twins.badIn("heaps", 0, NO_SETS, 0, 300, -1);
        Twins.badIn("cost", 0, NO_SETS, 0, 31, 1);
    }

    private static void heatAndCloth() {
        Doc.says("A RUN is a set of THINGS (bits), a heat (3 .. 9), with a CLOTH or without.");
        Doc.says("things (hc: 10 times the heat, and 1 with a CLOTH, else 0).");
        int[] given = {13, 17, 21, 26, 30, 34, 39};
        Asked a = Asked.four();
        for (int heat = 3; heat <= 9; heat++) {
            a.due(given[heat - 3], "run", 15, heat * 10, 0).due(given[heat - 3] - 6, "run", 15, heat * 10 + 1, 0);
            a.due(given[heat - 3], "tint", 15, heat * 10, 0).due(given[heat - 3] - 6, "tint", 15, heat * 10 + 1, 0);
            a.due(heat > 6 ? 0 : 1, "safe", 15, heat * 10, 99).due(heat > 6 ? 0 : 1, "safe", 15, heat * 10 + 1, 99);
        }
        Twins.badIn("run", 1, NO_HC, 5, 0, 0);
        Twins.badIn("tint", 1, NO_HC, 5, 0, 0);
        Twins.badIn("safe", 1, NO_HC, 5, 0, 0);
    }

    private static void itGoes() {
        Doc.says("It GOES, if their SIZES together are no more than DRUM (none at all goes, too).");
        Asked a = Asked.many(10, 0, 6).does("mend", 0, 8, 60).due(1, "run", 1023, 30, 3).does("mend", 9, 4, 7);
        a.due(0, "run", 1023, 30, 3).due(1, "run", 1022, 30, 3).does("mend", 0, 4, 5).due(1, "run", 1023, 30, 3);
        a.does("mend", 0, 8, 59).due(0, "run", 1023, 30, 3);
        Asked b = Asked.many(2, 0, 1).does("mend", 1, 4, 2).does("mend", 0, 8, 1).due(1, "run", 0, 30, 3);
        b.due(1, "run", 1, 30, 3).due(0, "run", 2, 30, 3).due(0, "run", 3, 30, 3);
        b.does("mend", 0, 8, 2).due(1, "run", 2, 30, 3).due(0, "run", 3, 30, 3);
        b.does("mend", 0, 8, 3).due(1, "run", 3, 30, 3);
        new Asked().due(1, "run", 0, 30, 3).due(1, "run", 0, 91, 3);
    }

    private static void whatIsLoose() {
        Doc.says("All dye given in it together less CLOTH, if there is one (0 at least), is loose.");
        Asked a = Asked.four();
        int[] cloths = {0, 1, 12, 13, 14, 99};
        int[] loose = {13, 12, 1, 0, 0, 0};
        for (int i = 0; i < cloths.length; i++) {
            a.does("mend", 0, 9, cloths[i]).due(loose[i], "run", 15, 31, 0).due(13, "run", 15, 30, 0);
        }
        a.due(0, "run", 0, 31, 0).due(0, "run", 0, 30, 0);
        Asked.many(10, 0, 1).law("99").due(990, "run", 1023, 30, 0).due(984, "run", 1023, 31, 0);
    }

    private static void tinted() {
        Doc.says("Each THING is tinted by what is loose less what is its own (0 at least): white by all of it, light "
                + "by "
                + "half (cut), dark by a tenth (cut), red not at all.");
        int[] dye = {0, 1, 2, 3, 9, 10, 11, 19, 20, 29, 30, 98, 99};
        int[] light = {0, 0, 1, 1, 4, 5, 5, 9, 10, 14, 15, 49, 49};
        int[] dark = {0, 0, 0, 0, 0, 1, 1, 1, 2, 2, 3, 9, 9};
        for (int i = 0; i < dye.length; i++) {
            // A second red one gives all the dye.
            Asked a = Asked.four().does("thing", 3, 9).law("s=9?" + dye[i] + ";0");
            a.due(dye[i], "tint", 17, 30, 0).due(light[i], "tint", 18, 30, 1).due(dark[i], "tint", 20, 30, 2);
            a.due(0, "tint", 24, 30, 3).due(0, "tint", 16, 30, 4);
            a.due(dye[i] + light[i] + dark[i], "run", 31, 30, 1).due(0, "run", 16, 30, 1).due(0, "run", 0, 30, 1);
        }
        Asked.many(10, 0, 1).law("99").due(891, "tint", 1023, 30, 9).due(8910, "run", 1023, 30, 1);
    }

    private static void lessItsOwn() {
        // White ones of sizes 5 and 9 that give as much.
        Asked a = new Asked().does("thing", 0, 5).does("thing", 0, 9).law("s");
        a.due(9, "tint", 3, 30, 0).due(5, "tint", 3, 30, 1).due(0, "tint", 1, 30, 0);
        int[] cloths = {0, 4, 5, 6, 8, 9, 10, 14, 99};
        int[] first = {9, 5, 4, 3, 1, 0, 0, 0, 0};
        int[] second = {5, 1, 0, 0, 0, 0, 0, 0, 0};
        for (int i = 0; i < cloths.length; i++) {
            a.does("mend", 0, 9, cloths[i]).due(first[i], "tint", 3, 31, 0).due(second[i], "tint", 3, 31, 1);
            a.due(first[i] + second[i], "run", 3, 31, 1);
        }
    }

    private static void spoilt() {
        Doc.says("It is SPOILT, if it does not BEAR the heat.");
        Asked a = Asked.many(7, 3, 1);
        for (int bears = 3; bears <= 9; bears++) {
            a.does("mend", bears - 3, 3, bears);
        }
        for (int heat = 3; heat <= 9; heat++) {
            // Those that bear less: one more with each heat.
            a.due((1 << heat - 3) - 1, "run", 127, heat * 10, 2).due((1 << heat - 3) - 1, "run", 127, heat * 10 + 1, 2);
            a.due(0, "run", 64, heat * 10, 2).due(0, "run", 0, heat * 10, 2);
        }
    }

    private static void inThought() {
        Doc.says("IN THOUGHT, one RUN: what is loose; how much a THING of it is tinted; all tints together; which are "
                + "SPOILT (bits); whether it GOES.");
        Doc.says("What is loose (what 0), all tints (1), SPOILT (2), whether it GOES (3). BAD.");
        Asked a = Asked.four().due(39, "run", 15, 90, 0).due(60, "run", 15, 90, 1).due(15, "run", 15, 90, 2);
        a.due(1, "run", 15, 90, 3).does("mend", 0, 8, 8).due(0, "run", 15, 90, 3).due(39, "run", 15, 90, 0);
        a.due(60, "run", 15, 90, 1).due(15, "run", 15, 90, 2).due(0, "led", 0).due(0, "of", 0, 2).due(0, "of", 0, 12);
        Twins.badIn("run", 2, new int[] {-1, 4, 5, MIN, MAX}, 5, 30, 0);
        for (int what = 0; what <= 3; what++) {
            Twins.bad("run", 16, 30, what);
            Twins.bad("run", 5, 29, what);
        }
    }

    private static void tint() {
        Doc.says("How much a THING of it is tinted. BAD (not of it, too).");
        Asked a = Asked.four().due(13, "tint", 15, 30, 0).due(0, "tint", 1, 30, 0).due(-1, "tint", 14, 30, 0);
        a.due(-1, "tint", 0, 30, 0).due(0, "tint", 8, 30, 3).due(-1, "tint", 8, 30, 2).due(-1, "tint", 7, 30, 3);
        Twins.badIn("tint", 2, NO_THINGS, 15, 30, 0);
        Twins.badIn("tint", 0, new int[] {0, 2, 14}, 0, 30, 0);
        Twins.tenThings().due(1, "run", 512, 30, 3).due(0, "tint", 512, 30, 9).due(-1, "tint", 512, 30, 10);
    }

    private static void safe() {
        Doc.says("SAFE: it GOES, none is SPOILT, none is tinted by more than told (0 .. 99).");
        Doc.says("SAFE by tints of at most t. BAD.");
        Asked a = Asked.four().due(0, "safe", 15, 30, 12).due(1, "safe", 15, 30, 13).due(1, "safe", 3, 30, 0);
        a.due(1, "safe", 0, 90, 0).due(1, "safe", 15, 60, 99).due(0, "safe", 15, 70, 99);
        a.does("mend", 0, 8, 9).due(1, "safe", 15, 30, 13).does("mend", 0, 8, 8).due(0, "safe", 15, 30, 99);
        // 99 is told at most, and what is tinted by more is never SAFE.
        Asked whites = Asked.many(3, 0, 1).law("99").due(1, "safe", 3, 30, 99).due(0, "safe", 3, 30, 98);
        whites.due(0, "safe", 7, 30, 99).due(1, "safe", 1, 30, 0);
        Twins.badIn("safe", 2, NO_TINTS, 5, 30, 0);
    }

    private static void together() {
        Doc.says("TOGETHER: with which other THINGS (bits) one is SAFE at a heat, two by two, without a CLOTH.");
        Doc.says("TOGETHER (ht: 100 times the heat, and t). BAD.");
        Asked a = Asked.four().due(2, "together", 0, 303).due(6, "together", 0, 304).due(6, "together", 0, 308);
        a.due(14, "together", 0, 309).due(14, "together", 0, 399).due(14, "together", 0, 699)
                .due(0, "together", 0, 700);
        a.due(0, "together", 0, 999).due(2, "together", 0, 300).does("mend", 0, 9, 99).due(2, "together", 0, 300);
        a.does("mend", 0, 8, 5).due(14, "together", 0, 399).does("mend", 0, 8, 4).due(0, "together", 0, 399);
        a.due(12, "together", 1, 399);
        Asked.many(1, 0, 9).due(0, "together", 0, 399);
        Asked.many(10, 0, 1).due(1022, "together", 0, 300).due(511, "together", 9, 300).due(-1, "together", 10, 300);
        Twins.badIn("together", 0, NO_THINGS, 0, 300);
        Twins.badIn("together", 1, NO_HT, 0, 0);
    }

    private static void heat() {
        Doc.says("HEAT: the greatest heat by which a set is SAFE without a CLOTH; NOT.");
        Doc.says("HEAT. BAD; NOT.");
        Asked a = Asked.many(1, 0, 9);
        for (int bears = 3; bears <= 9; bears++) {
            a.does("mend", 0, 3, bears).due(bears, "heat", 1, 0).due(bears, "heat", 1, 99).due(9, "heat", 0, 0);
        }
        a.does("mend", 0, 8, 8).due(-2, "heat", 1, 99).due(9, "heat", 0, 0);
        Asked b = Asked.four().due(-2, "heat", 9, 8).due(3, "heat", 9, 9).due(3, "heat", 9, 11).due(4, "heat", 9, 12);
        b.due(6, "heat", 9, 18).due(6, "heat", 9, 99).does("mend", 0, 9, 99).due(-2, "heat", 9, 8);
        Asked.four().law("h=9?0;h=5?9;r*9").does("mend", 0, 3, 9).does("mend", 3, 3, 9).due(9, "heat", 9, 0);
        Asked.four().law("h=3?0;99").due(3, "heat", 9, 0).due(3, "heat", 9, 98).due(6, "heat", 9, 99);
        Twins.badIn("heat", 1, NO_TINTS, 5, 0);
        Twins.refused(Twins::busy, -2, "heat", 2, 99);
        // BAD goes ahead of NOT.
        Twins.bad("heat", 2, 100);
    }

    private static void cloths() {
        Doc.says("CLOTHS: the least number of CLOTHS (0 .. 9, each catching CLOTH) by which a set is SAFE at a heat; "
                + "NOT.");
        Doc.says("CLOTHS (ht). BAD; NOT.");
        // White and red: 9 loose.
        int[] each = {1, 2, 3, 4, 5, 8, 9, 99};
        int[] least = {9, 5, 3, 3, 2, 2, 1, 1};
        Asked a = Asked.four();
        for (int i = 0; i < each.length; i++) {
            a.does("mend", 0, 9, each[i]).due(least[i], "cloths", 9, 300).due(0, "cloths", 9, 309);
        }
        a.does("mend", 0, 9, 1).due(1, "cloths", 9, 308).due(-2, "cloths", 9, 400).due(-2, "cloths", 9, 402);
        a.due(9, "cloths", 9, 403).does("mend", 0, 9, 0).due(-2, "cloths", 9, 308).due(0, "cloths", 9, 309);
        a.due(0, "cloths", 0, 900).due(0, "cloths", 9, 399).due(-2, "cloths", 9, 799).does("mend", 0, 8, 4);
        a.due(-2, "cloths", 9, 399).due(0, "cloths", 1, 699).due(-2, "cloths", 1, 700).due(-2, "cloths", 1, 799);
        Twins.badIn("cloths", 1, NO_HT, 5, 0);
        Twins.refused(Twins::busy, -2, "cloths", 2, 399);
        Twins.bad("cloths", 2, 299);
    }

    private static void fewestRuns() {
        Doc.says("HEAPS: the fewest RUNS, without CLOTHS, all at a heat, by which a set is washed, each THING once, "
                + "all "
                + "SAFE: how many;");
        Doc.says("NOT (none: 0 RUNS).");
        Asked a = Asked.many(8, 0, 1);
        int[] runs = {8, 4, 3, 2, 2, 2, 2, 1};
        for (int drum = 1; drum <= 8; drum++) {
            a.does("mend", 0, 8, drum).due(runs[drum - 1], "heaps", 255, 300, -1).due(0, "heaps", 0, 300, -1);
            a.due(1, "heaps", 1, 300, -1).due(drum == 1 ? 2 : 1, "heaps", 3, 300, -1);
        }
        a.due(1, "heaps", 255, 600, -1).due(1, "heaps", 255, 699, -1).due(-2, "heaps", 255, 700, -1)
                .due(0, "heaps", 0, 900, -1);
        // One that no RUN may have makes it NOT, by whatever.
        a.does("mend", 7, 4, 9).due(-2, "heaps", 255, 300, -1).due(-2, "heaps", 255, 300, 0)
                .due(1, "heaps", 127, 300, -1);
        Asked b = Asked.four().due(2, "heaps", 15, 312, -1).due(1, "heaps", 15, 313, -1).due(2, "heaps", 15, 300, -1);
        b.does("mend", 0, 9, 99).due(2, "heaps", 15, 312, -1);
    }

    private static void firstByTheseNumbers() {
        Doc.says("the RUN of a THING: of all ways with as many, RUNS numbered as they come THING by THING (the first "
                + "THING's is 0, a new one the next number), the first by these numbers;");
        int[][] sizes = {{5, 4, 6, 5}, {3, 3, 3, 3, 3}, {6, 5, 5, 4, 4, 6}, {9, 1, 9, 1, 8, 2}, {2, 9, 8, 1},
            {7, 3, 3, 4, 3}, {9, 9, 9, 9, 9, 9, 9, 9}};
        int[] drums = {10, 6, 10, 10, 10, 10, 17};
        int[][] runs = {{0, 1, 1, 0}, {0, 0, 1, 1, 2}, {0, 1, 1, 0, 2, 2}, {0, 0, 1, 1, 2, 2}, {0, 1, 0, 1},
            {0, 0, 1, 1, 1}, {0, 1, 2, 3, 4, 5, 6, 7}};
        for (int i = 0; i < sizes.length; i++) {
            // Behind a THING that is not of the set.
            Asked a = Asked.many(1, 0, 1).does("mend", 0, 8, drums[i]);
            for (int size : sizes[i]) {
                a.does("thing", 0, size);
            }
            int set = (1 << sizes[i].length + 1) - 2;
            for (int thing = 0; thing < sizes[i].length; thing++) {
                a.due(runs[i][thing], "heaps", set, 300, thing + 1);
            }
            a.due(-2, "heaps", set, 300, 0).due(0, "heaps", 1 << sizes[i].length, 300, sizes[i].length);
        }
    }

    private static void eightThingsAtMost() {
        Doc.says("HEAPS (ht; 8 THINGS at most, else STATE): how many (thing -1), the RUN of a THING (NOT: it is not of "
                + "the set). BAD; STATE; NOT.");
        Asked a = Asked.many(10, 0, 1).due(1, "heaps", 255, 300, -1).due(1, "heaps", 1020, 300, -1);
        a.due(-5, "heaps", 511, 300, -1).due(-5, "heaps", 1023, 300, -1).due(-5, "heaps", 511, 300, 0);
        // STATE goes ahead of NOT: not of the set, or not to be washed at all.
        a.due(-5, "heaps", 511, 300, 9).due(-5, "heaps", 511, 700, -1).due(-2, "heaps", 255, 300, 9);
        a.due(-2, "heaps", 255, 700, 0).due(0, "heaps", 512, 300, 9).due(-2, "heaps", 0, 300, 9);
        // BAD goes ahead of both.
        a.due(-1, "heaps", 1023, 299, -1).due(-1, "heaps", 1023, 300, 10).due(-1, "heaps", 255, 1000, 9);
        Twins.badIn("heaps", 1, NO_HT, 5, 0, -1);
        Twins.badIn("heaps", 2, new int[] {-2, 4, 10, MIN, MAX}, 5, 300, 0);
        Twins.refused(Twins::busy, -2, "heaps", 5, 300, 1);
        Twins.refused(Twins::busy, -2, "heaps", 2, 300, -1);
        Twins.refused(Twins::tenThings, -5, "heaps", 511, 300, -1);
        Twins.refused(Twins::tenThings, -5, "heaps", 1023, 300, 9);
    }

    private static void cost() {
        Doc.says("COST of pink: a set is washed in at most n RUNS (1 .. 6), without CLOTHS, at a heat, all of which "
                + "GO and "
                + "SPOIL nothing: the least all tints can be together, times a PRICE (0 .. 99, told);");
        // White and red ones by turns, each red one giving 3.
        Asked a = new Asked();
        for (int i = 0; i < 6; i++) {
            a.does("thing", i % 2 * 3, 3).does("mend", i, 1, i % 2 * 3);
        }
        a.does("mend", 0, 8, 18).due(27, "cost", 63, 31, 1).due(0, "cost", 63, 32, 1).due(0, "cost", 63, 36, 1);
        a.does("mend", 0, 8, 17).due(-2, "cost", 63, 31, 1).due(0, "cost", 63, 32, 1);
        a.does("mend", 0, 8, 9).due(0, "cost", 63, 32, 1).does("mend", 0, 8, 8).due(-2, "cost", 63, 32, 1);
        // Three RUNS of two: one white and one red are together in one of them.
        a.due(3, "cost", 63, 33, 1).due(0, "cost", 63, 33, 0).due(297, "cost", 63, 33, 99).due(0, "cost", 63, 34, 99);
        a.does("mend", 0, 8, 5).due(-2, "cost", 63, 35, 1).due(0, "cost", 63, 36, 1).does("mend", 0, 8, 2);
        a.due(-2, "cost", 63, 36, 1).due(0, "cost", 0, 31, 99).due(0, "cost", 0, 36, 1);
        // Borne or not.
        Asked b = Asked.four().due(26 + 13 + 1, "cost", 15, 61, 1).due(-2, "cost", 15, 71, 1)
                .due(-2, "cost", 15, 76, 1);
        b.due(0, "cost", 0, 91, 1).does("mend", 0, 9, 99).due(19, "cost", 15, 31, 1);
        Twins.badIn("cost", 1, new int[] {30, 37, 38, 39, 21, 26, 101, 106, -31, 0, 1, MIN, MAX}, 5, 0, 1);
        Twins.badIn("cost", 2, new int[] {-1, 100, MIN, MAX}, 5, 31, 1);
    }

    private static void sevenThingsAtMost() {
        Doc.says("7 THINGS at most, else STATE; NOT.");
        Doc.says("COST of pink (hn: 10 times the heat, and n). BAD; STATE; NOT.");
        Asked a = Asked.many(10, 0, 1).due(0, "cost", 127, 31, 1).due(0, "cost", 1016, 36, 1);
        a.due(-5, "cost", 255, 31, 1).due(-5, "cost", 1023, 31, 1).due(-5, "cost", 255, 71, 1);
        a.does("mend", 0, 8, 1).due(-2, "cost", 127, 36, 1).due(-5, "cost", 255, 36, 1).due(0, "cost", 126, 36, 1);
        a.due(-1, "cost", 255, 37, 1).due(-1, "cost", 255, 31, 100).due(-1, "cost", 127, 30, 1);
        for (int heat = 3; heat <= 9; heat++) {
            a.due(heat > 6 ? -2 : 0, "cost", 1, heat * 10 + 1, 1).due(heat > 6 ? -2 : 0, "cost", 1, heat * 10 + 6, 1);
            a.due(-1, "cost", 1, heat * 10, 1).due(-1, "cost", 1, heat * 10 + 7, 1);
        }
        Twins.refused(Twins::busy, -2, "cost", 2, 31, 1);
        Twins.refused(Twins::tenThings, -5, "cost", 255, 31, 1);
    }

    private static void alone() {
        Doc.says("ALONE: the first RUN count (WASHED 0 .. 99 from now) from which on a THING gives no dye at a heat, "
                + "if it "
                + "is washed alone till then; NOT by 99.");
        Doc.says("ALONE at a heat. BAD; NOT.");
        Asked a = Asked.four().due(9, "alone", 3, 3).due(9, "alone", 3, 9).due(0, "alone", 0, 3);
        int[] washed = {0, 1, 8, 9, 10, 98, 99};
        int[] runs = {9, 8, 1, 0, 0, 0, 0};
        for (int i = 0; i < washed.length; i++) {
            a.does("mend", 3, 2, washed[i]).due(runs[i], "alone", 3, 3).due(washed[i], "of", 3, 2);
        }
        // By a law: to the last that may be.
        int[][] byWashed = {{0, 99}, {1, 98}, {98, 1}, {99, 0}};
        Asked b = Asked.four().law("n<99");
        for (int[] one : byWashed) {
            b.does("mend", 3, 2, one[0]).due(one[1], "alone", 3, 3);
        }
        b.law("1").due(-2, "alone", 3, 3).does("mend", 3, 2, 0).due(-2, "alone", 3, 3);
        b.law("h>3").due(0, "alone", 3, 3).due(-2, "alone", 3, 4).law("n=99").due(-2, "alone", 3, 3);
        b.law("n=98").due(99, "alone", 3, 3).law("n=0").due(1, "alone", 3, 3).does("mend", 3, 2, 1)
                .due(0, "alone", 3, 3);
        // No RUN count goes beyond WASHED 99.
        b.law("0-n").due(0, "alone", 3, 9).law("n>99").due(0, "alone", 3, 9).law("n>98").due(-2, "alone", 3, 9);
        Twins.badIn("alone", 0, NO_THINGS, 0, 3);
        Twins.badIn("alone", 1, new int[] {2, 10, 0, -3, 30, MIN, MAX}, 0, 0);
        Twins.refused(() -> Twins.busy().does("feed", '1').does("law").law("1"), -2, "alone", 0, 3);
    }
}
