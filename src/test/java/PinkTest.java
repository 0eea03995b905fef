/** Promises 24 to 29: judge, which, heatOfIt, sock, test, drawn. */
final class PinkTest {
    public static void main(String[] args) {
        judge();
        which();
        heatOfIt();
        sock();
        refused();
        test();
        drawn();
        drawnBySize();
        Due.end();
    }

    private static void judge() {
        WithTheReds w = Due.four();
        Due.row(w, 0, 1, 13, 6, 0, 0);
        Due.is("all is so", w.judge(0, 15, 30), -2);
        Due.is("not so at 4", w.judge(0, 15, 40), 0);
        Due.is("not so with a cloth", w.judge(0, 15, 31), 0);
        Due.is("those not of it do not matter", w.judge(0, 12, 30), -2);
        Due.is("not so without the dark one", w.judge(0, 11, 30), 0);
        w.put(0, 1, 5);
        Due.is("the second is not so", w.judge(0, 15, 30), 1);
        w.put(0, 3, -1);
        Due.is("the first one that is not so", w.judge(0, 15, 30), 1);
        Due.is("the last one", w.judge(0, 13, 30), 3);
        Due.row(w, 0, 1, 13);
        Due.is("those without an element do not matter", w.judge(0, 15, 30), -2);
        Due.row(w, 0, 1);
        Due.is("no elements", w.judge(0, 15, 90), -2);
        Due.row(w, 0, 1, 13, 6, 0, 0, 9, 9);
        Due.is("more elements than things", w.judge(0, 15, 30), -2);
        w.mend(0, 8, 1);
        Due.is("one that does not go is judged, too", w.judge(0, 15, 30), -2);
    }

    private static void which() {
        WithTheReds w = Due.four();
        Due.row(w, 0, 1, 9, 4, 7, 7);
        Due.is("the red one", w.which(0, 3, 30, 1), 3);
        Due.is("one", w.which(0, 3, 30, 0), 1);
        Due.row(w, 0, 1, 4, 7, 7, 7);
        Due.is("the dark one", w.which(0, 1, 30, 1), 2);
        Due.row(w, 0, 1, 0, 7, 7, 7);
        Due.is("only one that gives none", w.which(0, 1, 30, 1), 1);
        w.mend(3, 2, 9);
        Due.is("two that give none", w.which(0, 1, 30, 0), 2);
        Due.is("the least of them", w.which(0, 1, 30, 1), 1);
        Due.is("with a cloth 4 less 6, too", w.which(0, 1, 31, 0), 3);
        Due.row(w, 0, 1, 1);
        Due.is("none", w.which(0, 1, 30, 0), 0);
        Due.is("no least", w.which(0, 1, 30, 1), -2);
        Due.is("none is left", w.which(0, 15, 30, 0), 0);
        Due.is("any one with none", w.which(0, 0, 30, 0), 4);
        Due.is("the least one with none", w.which(0, 0, 30, 1), 0);
        Due.is("what -1", w.which(0, 1, 30, -1), -1);
        Due.is("what 2", w.which(0, 1, 30, 2), -1);
        Due.is("the row is as it was", w.element(0, 0), 1);
    }

    private static void heatOfIt() {
        WithTheReds w = Due.four();
        Due.row(w, 3, 1, 12, 6);
        Due.is("red at 4", w.heatOfIt(3, 9), 4);
        Due.is("light and red: 6 at 4 (12 / 2)", w.heatOfIt(3, 10), 4);
        Due.row(w, 3, 1, 27);
        Due.is("at 9, spoilt or not", w.heatOfIt(3, 9), 9);
        Due.row(w, 3, 1, 9);
        Due.is("at 3", w.heatOfIt(3, 9), 3);
        Due.row(w, 3, 1, 10);
        Due.is("at none", w.heatOfIt(3, 9), -2);
        Due.row(w, 3, 1, 5);
        // The dark one gives 4, 5, 6, 8, 9, 10, 12.
        Due.is("at 4 by the dark one", w.heatOfIt(3, 5), 4);
        Due.row(w, 3, 1, 7);
        Due.is("at none by the dark one", w.heatOfIt(3, 5), -2);
        Due.row(w, 3, 1, 0);
        Due.is("the least of all", w.heatOfIt(3, 3), 3);
        Due.is("no set", w.heatOfIt(3, 0), 3);
    }

    private static void sock() {
        WithTheReds w = Due.four();
        Due.row(w, 0, 1, 7);
        Due.is("DYE 7 at 3", w.sock(0, 9, 3, 3), 7);
        Due.is("its own DYE is as it was", w.of(3, 1), 9);
        Due.is("at 6: none gives 7", w.sock(0, 9, 6, 3), -2);
        w.mend(3, 2, 2);
        Due.is("washed twice: 9 less 2", w.sock(0, 9, 3, 3), 9);
        w.mend(3, 2, 3);
        Due.is("washed three times: no DYE is enough", w.sock(0, 9, 3, 3), -2);
        Due.row(w, 0, 1, 0);
        Due.is("the least of 0 to 3", w.sock(0, 9, 3, 3), 0);
        Due.row(w, 0, 1, 9);
        Due.is("4 of the dark one and 5", w.sock(0, 13, 3, 3), 8);
        Due.row(w, 0, 1, 4, 9, 9, 9);
        Due.is("its own element matters: red is tinted by 0, not 9", w.sock(0, 13, 3, 3), -2);
        Due.row(w, 0, 1, 4, 9, 9, 0);
        Due.is("dark's is 0, not 9", w.sock(0, 13, 3, 3), -2);
        Due.row(w, 0, 1, 4, 9, 0, 0);
        Due.is("now all is so", w.sock(0, 13, 3, 3), 0);
        Due.is("not of it", w.sock(0, 9, 3, 2), -1);
        Due.is("law", Due.tell(w, "r=5"), 1);
        Due.row(w, 0, 1, 1);
        Due.is("by the law", w.sock(0, 9, 3, 3), 5);
        Due.is("no change", w.of(3, 1), 9);
    }

    private static int pink(WithTheReds w, int call, int shelf, int set, int heat) {
        switch (call) {
            case 0:
                return w.judge(shelf, set, heat * 10);
            case 1:
                return w.which(shelf, set, heat * 10, 0);
            case 2:
                return w.heatOfIt(shelf, set);
            default:
                return w.sock(shelf, set, heat, 0);
        }
    }

    private static void refused() {
        for (int call = 0; call < 4; call++) {
            WithTheReds w = Due.four();
            Due.is("shelf -1 " + call, pink(w, call, -1, 15, 3), -1);
            Due.is("shelf 6 " + call, pink(w, call, 6, 15, 3), -1);
            Due.is("nothing " + call, pink(w, call, 0, 15, 3), -11);
            Due.is("BAD ahead of nothing " + call, pink(w, call, 0, 16, 3), -1);
            for (int sort = 0; sort <= 4; sort++) {
                w.row(0, sort, 0);
                if (sort != 1) {
                    Due.is("sort " + sort + " " + call, pink(w, call, 0, 15, 3), -12);
                    Due.is("BAD ahead of sort " + sort + " " + call, pink(w, call, 0, 16, 3), -1);
                }
            }
            w.body(0);
            w.keep(0, 0);
            Due.is("body " + call, pink(w, call, 0, 15, 3), -12);
            w.row(0, 1, 0);
            Due.is("set " + call, pink(w, call, 0, -1, 3), -1);
            if (call != 2) {
                Due.is("heat 2 " + call, pink(w, call, 0, 15, 2), -1);
                Due.is("heat 10 " + call, pink(w, call, 0, 15, 10), -1);
            }
        }
        WithTheReds w = Due.four();
        w.row(0, 1, 0);
        Due.is("judge hc 32", w.judge(0, 15, 32), -1);
        Due.is("which hc 32", w.which(0, 15, 32, 0), -1);
        Due.is("sock thing 4", w.sock(0, 15, 3, 4), -1);
        Due.is("sock thing -1", w.sock(0, 15, 3, -1), -1);
    }

    private static void test() {
        WithTheReds w = Due.four();
        Due.is("seen at 1", w.test(15, 301), 0);
        Due.is("dark unseen at 5", w.test(15, 305), 4);
        Due.is("dark seen at 4", w.test(15, 304), 0);
        Due.is("both unseen at 10", w.test(15, 310), 12);
        Due.is("of a set", w.test(7, 999), 4);
        Due.is("none", w.test(0, 999), 0);
        Due.is("law", Due.tell(w, "h>5?c;0"), 1);
        Due.is("none at 3, none at 5", w.test(15, 501), 0);
        Due.is("none at 3, some at 6", w.test(15, 601), 14);
        Due.is("t 0", w.test(15, 300), -1);
        Due.is("heat 2", w.test(15, 299), -1);
        Due.is("heat 10", w.test(15, 1001), -1);
        Due.is("below 0", w.test(15, -301), -1);
        Due.is("set", w.test(16, 301), -1);
    }

    /** A week's run by the document's own draw, all of whose things go. */
    private static int week(int[] z, int things) {
        int set = 0;
        for (int thing = 0; thing < things; thing++) {
            z[0] = z[0] * 1103515245 + 12345;
            set |= (z[0] >>> 8) % 12 < 6 ? 1 << thing : 0;
        }
        return set;
    }

    private static void drawn() {
        int[] seeds = {0, 1, -1, 7, 123456789, Integer.MIN_VALUE, Integer.MAX_VALUE};
        for (int seed : seeds) {
            WithTheReds w = Due.four();
            w.mend(1, 3, 4);
            int[] z = {seed};
            int tints = 0;
            int spoilt = 0;
            for (int n = 1; n <= 30; n++) {
                int set = week(z, 4);
                tints += w.run(set, 50, 1);
                spoilt += w.run(set, 50, 2) == 0 ? 0 : 1;
                Due.is("tints of " + n + " by " + seed, w.drawn(seed, n * 10 + 5, 0), tints);
                Due.is("weeks of " + n + " by " + seed, w.drawn(seed, n * 10 + 5, 1), spoilt);
            }
            Due.is("nothing is washed", w.of(3, 2), 0);
        }
        WithTheReds w = Due.four();
        Due.is("0 weeks", w.drawn(1, 3, 0), -1);
        Due.is("31 weeks", w.drawn(1, 313, 0), -1);
        Due.is("heat 2", w.drawn(1, 302, 0), -1);
        Due.is("heat 0", w.drawn(1, 310, 0), -1);
        Due.is("below 0", w.drawn(1, -13, 0), -1);
        Due.is("what -1", w.drawn(1, 13, -1), -1);
        Due.is("what 2", w.drawn(1, 13, 2), -1);
        Due.is("no things", new WithTheReds().drawn(1, 309, 0), 0);
    }

    /** Things that do not go are left out by numbers, and smaller ones behind them still may go. */
    private static void drawnBySize() {
        for (int seed = 0; seed < 40; seed++) {
            WithTheReds w = new WithTheReds();
            int[] sizes = {4, 9, 2, 5, 1};
            int[] z = {seed};
            for (int i = 0; i < sizes.length; i++) {
                w.thing(i == 4 ? 3 : 0, sizes[i]);
                w.mend(i, 1, i + 2);
            }
            w.mend(0, 8, 7);
            w.throwAway(2);
            int wish = week(z, 5);
            int set = 0;
            for (int thing = 0; thing < 5; thing++) {
                if ((wish >> thing & 1) == 1 && w.run(set | 1 << thing, 30, 3) == 1) {
                    set |= 1 << thing;
                }
            }
            Due.is("a week by " + seed, w.drawn(seed, 13, 0), w.run(set, 30, 1));
        }
    }
}
