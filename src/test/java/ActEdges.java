/** Sentences about KINDS and their acts, with an x that wraps: promises 39 and 46. */
final class ActEdges {
    private static final int RUNS = 0, TINTS = 1, DRIES = 2, TELLS = 3;
    private static final int[] XS = {0, 1, 2, -1, 1 << 29, 1 << 30, -1 << 30, Integer.MAX_VALUE - 49, Integer.MAX_VALUE,
        Integer.MAX_VALUE - 1, Integer.MIN_VALUE, Integer.MIN_VALUE + 1};
    // The bodies that run in each act of each kind, as they begin, worked out by hand.
    private static final String[][] TRACES = {
        {"1", "10 1", "11", "2 10 1 11"},
        {"20 1", "10 20 1", "11", "2 10 20 1 11"},
        {"1", "30 10 1", "11", "2 30 10 1 11"},
        {"1", "41 30 10 1", "40 11", "2 41 30 10 1 40 11"},
        {"20 1", "10 20 1", "11", "50 2 10 20 1 11"},
        {"1", "41 30 10 1", "60 40 11 1", "61 2 41 30 10 1 60 40 11 1"},
        {"70 1", "10 70 1", "11", "2 10 70 1 11"},
        {"81 70 1", "80 10 81 70 1 11", "11", "2 80 10 81 70 1 11 11"}};

    private ActEdges() {
    }

    static void all() {
        Doc.says("ACTS with x (an int that wraps): 0 runs, 1 tints, 2 dries, 3 tells; n its number.");
        Doc.says("runs(..) and so on: the body of its own KIND, or of the next KIND above that has one; super: from "
                + "the KIND "
                + "above the body's on.");
        Doc.says("BODIES of acts: RUNS (an interface of SOCK): 1 runs: x + n.");
        Doc.says("TELLS (of SOCK): 2 tells: tints(x) - dries(1).");
        kind(0, "0 SOCK;", "SOCK: 10 tints: runs(x) * 2. 11 dries: x ^ n.");
        kind(1, "1 SHIRT under SOCK;", "SHIRT: 20 runs: super.runs(x) + 3.");
        kind(2, "2 WOOL under SOCK;", "WOOL: 30 tints: -super.tints(x).");
        kind(3, "3 JEANS under WOOL;", "JEANS: 40 dries: super.dries(x) * 3. 41 tints: super.tints(x + 1).");
        kind(4, "4 TOWEL under SHIRT;", "TOWEL: 50 tells: super.tells(x) ^ 5.");
        kind(5, "5 LABEL under JEANS;", "LABEL: 60 dries: super.dries(x) - runs(2). 61 tells: super.tells(x) + 1.");
        kind(6, "6 CLOTH under SOCK;", "CLOTH: 70 runs: super.runs(x) * 2.");
        kind(7, "7 PINK under CLOTH.", "PINK: 80 tints: super.tints(x) + dries(2). 81 runs: super.runs(x) - 1.");
    }

    /** The first and the last number, and one between, with all acts. */
    private static void kind(int kind, String place, String bodies) {
        Doc.says(place);
        Doc.says(bodies);
        for (int number : new int[] {0, 1, 24, 49}) {
            Asked a = new Asked();
            for (int i = 0; i < 50; i++) {
                // Around it stand bodies of other kinds.
                a.due(i, "body", i == number ? kind : (kind + 1 + i % 7) % 8);
            }
            for (int act = RUNS; act <= TELLS; act++) {
                for (int x : XS) {
                    a.due((int) answer(kind, number, act, x), "act", number, act, x);
                }
                trace(a, TRACES[kind][act].split(" "));
            }
        }
    }

    private static void trace(Asked a, String[] want) {
        a.due(want.length, "count", 5);
        for (int i = 0; i < want.length; i++) {
            a.due(Integer.parseInt(want[i]), "trace", i);
        }
        a.due(-1, "trace", want.length).due(-1, "trace", -1);
    }

    /** Worked out in longs, without a wrap. */
    private static long answer(int kind, int n, int act, long x) {
        switch (act) {
            case RUNS:
                return runs(kind, n, x);
            case TINTS:
                return tints(kind, n, x);
            case DRIES:
                return dries(kind, n, x);
            default:
                long tells = tints(kind, n, x) - dries(kind, n, 1);
                return kind == 4 ? tells ^ 5 : kind == 5 ? tells + 1 : tells;
        }
    }

    private static long runs(int kind, int n, long x) {
        switch (kind) {
            case 1: case 4:
                return x + n + 3;
            case 6:
                return (x + n) * 2;
            case 7:
                return (x + n) * 2 - 1;
            default:
                return x + n;
        }
    }

    private static long tints(int kind, int n, long x) {
        switch (kind) {
            case 2:
                return -(runs(kind, n, x) * 2);
            case 3: case 5:
                return -(runs(kind, n, x + 1) * 2);
            case 7:
                return runs(kind, n, x) * 2 + (2 ^ n);
            default:
                return runs(kind, n, x) * 2;
        }
    }

    private static long dries(int kind, int n, long x) {
        switch (kind) {
            case 3:
                return (x ^ n) * 3;
            case 5:
                return (x ^ n) * 3 - (2 + n);
            default:
                return x ^ n;
        }
    }
}
