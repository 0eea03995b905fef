/** Sentences with a bound about deeds, changes and the image: promises 30 to 37. */
final class DeedEdges {
    private static final int MIN = Integer.MIN_VALUE, MAX = Integer.MAX_VALUE;
    private static final int[] NO_THINGS = {-1, 4, 10, 31, 32, MIN, MAX};

    private DeedEdges() {
    }

    static void all() {
        wash();
        washedOneMore();
        tintOneMore();
        washRefused();
        bleach();
        throwAway();
        thrownAwayRunsDoNotGo();
        led();
        undone();
        doneAgain();
        sameNumberIsNone();
        fortyAtMost();
        deedsAreNone();
        anImage();
        laidBack();
    }

    private static void wash() {
        Doc.says("WASH: all tints. BAD; STATE: it does not GO.");
        Doc.says("in deed.");
        Asked a = Asked.four().due(19, "wash", 15, 30).due(0, "wash", 0, 30).due(0, "wash", 1, 30).due(3, "led", 0);
        // As many SIZES as DRUM, and one more.
        a.does("mend", 0, 8, 9).due(5 + 2, "wash", 15, 31).does("mend", 0, 8, 8).due(-5, "wash", 15, 31)
                .due(4, "led", 0);
        a.due(0, "wash", 0, 90).does("mend", 0, 8, 1).due(0, "wash", 0, 90).due(-5, "wash", 1, 30).due(6, "led", 0);
        new Asked().due(0, "wash", 0, 30).due(-1, "wash", 1, 30).due(1, "led", 0);
    }

    private static void washedOneMore() {
        Doc.says("IN DEED: WASH a RUN: WASHED of each one more (99 at most),");
        Asked a = Asked.four();
        int[] washed = {0, 1, 97, 98, 99};
        int[] then = {1, 2, 98, 99, 99};
        for (int i = 0; i < washed.length; i++) {
            a.does("mend", 1, 2, washed[i]).due(0, "wash", 2, 30).due(then[i], "of", 1, 2).due(0, "of", 0, 2)
                    .due(0, "of", 3, 2);
        }
        // With the dye that it gave ahead of it, not behind.
        Asked b = Asked.four().due(9, "wash", 9, 30).due(8, "wash", 9, 30).due(17, "of", 0, 12).due(2, "of", 3, 2);
        for (int i = 2; i < 9; i++) {
            b.due(9 - i, "wash", 9, 30);
        }
        b.due(0, "wash", 9, 30).due(45, "of", 0, 12);
        // Every one of ten.
        Asked ten = Asked.many(10, 0, 1);
        for (int i = 1; i <= 100; i++) {
            ten.due(0, "wash", 1023, 30).due(Math.min(i, 99), "of", 9, 2).due(Math.min(i, 99), "of", 0, 2);
        }
    }

    private static void tintOneMore() {
        Doc.says("TINT of each more (99 at most);");
        // White by the whole, light by half of what the last thing, a red one of size 9, gives.
        int[] first = {0, 48, 49, 50, 98, 99};
        int[] white = {50, 98, 99, 99, 99, 99};
        int[] light = {25, 49, 49, 50, 74, 74};
        for (int i = 0; i < first.length; i++) {
            Asked a = Asked.four().does("thing", 3, 9).does("mend", 0, 8, 16).law("s=9?" + first[i] + ";0");
            a.due(first[i] + first[i] / 2 + first[i] / 10, "wash", 23, 30).due(first[i], "of", 0, 12);
            a.due(first[i] / 2, "of", 1, 12).due(first[i] / 10, "of", 2, 12).due(0, "of", 4, 12);
            a.law("s=9?50;0").due(50 + 25 + 5, "wash", 23, 30).due(white[i], "of", 0, 12).due(light[i], "of", 1, 12);
            a.due(first[i] / 10 + 5, "of", 2, 12).due(0, "of", 3, 12);
        }
        // More than 99 at once.
        Asked b = Asked.many(3, 0, 1).law("99").due(594, "wash", 7, 30).due(99, "of", 0, 12).due(99, "of", 2, 12);
        b.due(594, "wash", 7, 30).due(99, "of", 1, 12).due(1188, "led", 1);
    }

    private static void washRefused() {
        Twins.badIn("wash", 0, new int[] {16, 17, 31, 1024, -1, -16, MIN, MAX}, 0, 30);
        Twins.badIn("wash", 1, new int[] {0, 1, 20, 21, 29, 32, 39, 42, 92, 99, 100, 101, -30, -31, MIN, MAX}, 5, 0);
        // BAD goes ahead of STATE.
        Twins.badIn("wash", 1, new int[] {29, 32, 100}, 2, 0);
        Twins.refused(Twins::busy, -5, "wash", 2, 30);
        Twins.refused(Twins::busy, -5, "wash", 15, 91);
        Twins.refused(() -> Twins.busy().does("mend", 0, 8, 4), -5, "wash", 5, 30);
        Twins.busy().does("mend", 0, 8, 5).does("wash", 5, 30).due(3, "led", 0);
    }

    private static void bleach() {
        Doc.says("BLEACH a THING: no TINT;");
        Doc.says("BLEACH: what TINT it had. BAD.");
        Asked a = Asked.four().due(0, "bleach", 0).does("wash", 15, 30).due(13, "bleach", 0).due(0, "of", 0, 12);
        a.due(0, "bleach", 0).due(6, "of", 1, 12).due(19, "led", 1).due(1, "of", 0, 2).due(6, "bleach", 1)
                .due(0, "bleach", 3);
        // 99 at most is had; what is thrown away may be bleached, too.
        Asked b = Asked.many(3, 0, 1).law("99").does("wash", 7, 30).does("throwAway", 2).due(99, "bleach", 2)
                .due(0, "of", 2, 12);
        b.due(1, "of", 2, 13).due(99, "bleach", 0);
        Asked.many(10, 0, 1).due(0, "bleach", 9).due(-1, "bleach", 10);
        Twins.badIn("bleach", 0, NO_THINGS, 0);
    }

    private static void throwAway() {
        Doc.says("Throw away: how many are left. BAD; STATE: it is thrown away.");
        Asked a = Asked.many(10, 0, 1);
        for (int i = 9; i >= 0; i--) {
            a.due(i, "throwAway", i).due(-5, "throwAway", i).due(10 - i, "led", 4).due(i, "count", 1)
                    .due(10, "count", 0);
        }
        a.due(-1, "throwAway", 10).due(-3, "thing", 0, 1);
        Twins.badIn("throwAway", 0, NO_THINGS, 0);
        Twins.refused(Twins::busy, -5, "throwAway", 1);
    }

    private static void thrownAwayRunsDoNotGo() {
        Doc.says("a THING is thrown away: a RUN with it does not GO.");
        Asked a = Asked.four().does("throwAway", 1);
        for (int set = 0; set <= 15; set++) {
            boolean with = (set & 2) != 0;
            a.due(with ? 0 : 1, "run", set, 30, 3).due(with ? 0 : 1, "safe", set, 30, 99)
                    .due(with ? -2 : set == 0 ? 9 : 6, "heat", set, 99);
            a.due(with ? -2 : 0, "cloths", set, 399).due(with ? -5 : a.answer("run", set, 30, 1), "wash", set, 30);
        }
        a.due(0, "together", 1, 399).due(12, "together", 0, 399).due(9, "together", 2, 309);
    }

    private static void led() {
        Doc.says("LED: RUNS, tints, SPOILT ones, CLOTHS, thrown away.");
        Doc.says("LED: RUNS (what 0), tints (1), SPOILT (2), CLOTHS (3), thrown away (4). BAD.");
        Asked a = Asked.four().does("mend", 0, 3, 3).does("mend", 3, 3, 4);
        led(a, 0, 0, 0, 0, 0);
        a.does("wash", 15, 30);
        led(a, 1, 19, 0, 0, 0);
        // One SPOILT; then two, each once more; an empty RUN with a CLOTH; one that does not GO.
        a.does("wash", 9, 41);
        led(a, 2, 19 + 4, 1, 1, 0);
        a.does("bleach", 0).does("wash", 9, 50);
        led(a, 3, 23 + 11, 3, 1, 0);
        a.does("wash", 0, 91).does("throwAway", 2).does("wash", 4, 91);
        led(a, 4, 34, 3, 2, 1);
        Twins.badIn("led", 0, new int[] {-1, 5, MIN, MAX}, 0);
    }

    private static void led(Asked a, int... want) {
        for (int what = 0; what < want.length; what++) {
            a.due(want[what], "led", what);
        }
    }

    private static void undone() {
        Doc.says("CHANGES (all numbers of mend();");
        Doc.says("can be UNDONE, the latest first,");
        Doc.says("UNDONE: how many may still be. STATE: none.");
        int[] first = {0, 0, 0, 6, 1, 12, 0, 7, 15, 6, 3, 20};
        Asked a = Asked.many(1, 0, 1).due(-5, "undo");
        for (int what = 0; what <= 11; what++) {
            a.due(first[what], "mend", 0, what, first[what] == 3 ? 4 : 3).due(what + 1, "count", 3);
        }
        for (int what = 11; what >= 0; what--) {
            a.due(what, "undo").due(first[what], "of", 0, what).due(what, "count", 3);
            if (what > 0) {
                a.due(first[what - 1] == 3 ? 4 : 3, "of", 0, what - 1);
            }
        }
        a.due(-5, "undo").due(0, "count", 3);
        Twins.refused(() -> Twins.busy().does("undo").does("undo").does("undo"), -5, "undo");
        Twins.refused(Asked::new, -5, "undo");
    }

    private static void doneAgain() {
        Doc.says("and DONE AGAIN (as long as no other came behind);");
        Doc.says("DONE AGAIN: how many may still be. STATE: none.");
        Asked a = Asked.many(1, 0, 1).due(-5, "redo").does("mend", 0, 1, 3).due(-5, "redo").does("mend", 0, 1, 5);
        a.does("mend", 0, 8, 9).due(2, "undo").due(1, "undo").due(0, "undo").due(-5, "undo");
        a.due(2, "redo").due(3, "of", 0, 1).due(1, "redo").due(5, "of", 0, 1).due(15, "of", 0, 8).due(0, "redo");
        a.due(9, "of", 0, 8).due(-5, "redo").due(3, "count", 3).due(2, "undo").due(1, "undo");
        // One that is refused, or tells the same number, is no other; one that changes a number is.
        a.due(-1, "mend", 0, 1, 10).due(3, "mend", 0, 1, 3).due(1, "redo").due(5, "of", 0, 1).due(1, "undo");
        a.due(7, "mend", 0, 7, 8).due(-5, "redo").due(3, "of", 0, 1).due(2, "count", 3).due(1, "undo").due(0, "redo");
        Twins.refused(() -> Twins.busy().does("redo").does("redo"), -5, "redo");
        Twins.refused(() -> Twins.busy().does("mend", 0, 7, 30), -5, "redo");
        Twins.refused(Asked::new, -5, "redo");
    }

    private static void sameNumberIsNone() {
        Doc.says("telling the same number is none)");
        for (int what = 0; what <= 11; what++) {
            Asked a = Asked.many(1, 0, 1);
            long is = a.answer("of", 0, what);
            a.due(is, "mend", 0, what, is).due(0, "count", 3).due(-5, "undo").does("mend", 0, what, is + 1)
                    .due(1, "count", 3);
            a.due(is + 1, "mend", 0, what, is + 1).due(1, "count", 3).due(0, "undo").due(is, "mend", 0, what, is)
                    .due(0, "redo");
            a.due(is + 1, "of", 0, what);
        }
    }

    private static void fortyAtMost() {
        Doc.says("40 at most are kept;");
        for (int n = 39; n <= 43; n++) {
            // Each change is of another number than those around it.
            int[] whats = {2, 5, 9};
            int[][] stands = new int[n + 1][];
            stands[0] = new int[] {0, 12, 6};
            Asked a = Asked.many(1, 0, 1);
            for (int i = 1; i <= n; i++) {
                stands[i] = stands[i - 1].clone();
                stands[i][i % 3] = 20 + i;
                a.due(stands[i - 1][i % 3], "mend", 0, whats[i % 3], 20 + i).due(Math.min(i, 40), "count", 3);
            }
            int kept = Math.min(n, 40);
            for (int left = kept - 1; left >= 0; left--) {
                a.due(left, "undo");
                numbers(a, whats, stands[n - kept + left]);
            }
            // The earliest ones are kept no further.
            a.due(-5, "undo").due(0, "count", 3);
            for (int left = kept - 1; left >= 0; left--) {
                a.due(left, "redo");
            }
            numbers(a.due(-5, "redo").due(kept, "count", 3), whats, stands[n]);
            // Full again: one undone makes room for one, and what was undone is forgotten.
            a.due(kept - 1, "undo").does("mend", 0, 2, 90).due(kept, "count", 3).due(-5, "redo");
            a.does("mend", 0, 2, 91).due(Math.min(n + 1, 40), "count", 3);
        }
    }

    private static void numbers(Asked a, int[] whats, int[] want) {
        for (int i = 0; i < whats.length; i++) {
            a.due(want[i], "of", 0, whats[i]);
        }
    }

    private static void deedsAreNone() {
        Doc.says("deeds are none (WASHED by them, too).");
        Asked a = Asked.four().due(2, "count", 3).does("mend", 3, 2, 4).due(2, "undo").does("wash", 15, 30)
                .does("bleach", 0);
        a.does("throwAway", 1).does("image").does("back").does("thing", 0, 1).does("wash", 8, 30).due(2, "count", 3);
        // None of them came behind; what is done again is the number that was told.
        a.due(2, "of", 3, 2).due(0, "redo").due(4, "of", 3, 2).does("wash", 8, 30).due(5, "of", 3, 2).due(2, "undo");
        a.due(0, "of", 3, 2).due(1, "undo").due(0, "undo").due(-5, "undo").due(1, "of", 2, 2).due(1, "of", 1, 13);
        Asked b = Asked.four().row(0, 0, 1, 1, 1).due(1, "things", 0, 0, 1).law("1").does("body", 0).due(2, "count", 3);
    }

    private static void anImage() {
        Doc.says("AN IMAGE keeps WASHED, TINTS, what is thrown away, what LED tells.");
        Doc.says("AN IMAGE is kept: RUNS.");
        new Asked().due(-5, "back").due(0, "image").due(0, "back");
        Asked a = Asked.four().does("wash", 15, 31).does("throwAway", 1).due(1, "image").does("wash", 9, 91)
                .does("bleach", 0);
        a.does("wash", 9, 91).does("throwAway", 3).does("mend", 0, 2, 77).does("mend", 0, 0, 1).does("mend", 0, 8, 9);
        a.law("5").does("feed", '7').does("body", 4).does("row", 0, 0, 3).due(1, "back");
        led(a, 1, 10, 0, 1, 1);
        a.due(1, "of", 0, 2).due(7, "of", 0, 12).due(3, "of", 1, 12).due(1, "of", 1, 13).due(0, "of", 3, 13)
                .due(1, "of", 3, 2);
        // Nothing else is kept in it.
        a.due(1, "of", 0, 0).due(9, "of", 0, 8).due(5, "gives", 0, 3).due(1, "count", 2).due(1, "count", 4)
                .due(0, "element", 0, 2);
        a.due(5, "count", 3).does("wash", 0, 30).does("wash", 0, 30).due(3, "image").does("wash", 0, 30).due(3, "back");
        a.due(3, "led", 0).due(3, "back").due(3, "led", 0);
        Twins.refused(() -> Asked.four().does("wash", 15, 30).does("throwAway", 0), -5, "back");
        Twins.refused(Asked::new, -5, "back");
    }

    private static void laidBack() {
        Doc.says("It is laid back (THINGS that came since: WASHED stays, no TINT, not thrown away): RUNS. STATE: "
                + "there is "
                + "none.");
        Asked a = Asked.four().does("wash", 9, 30).due(1, "image");
        for (int i = 4; i < 10; i++) {
            a.due(i, "thing", 0, 1).does("wash", 8 | 1 << i, 30).does("mend", i, 2, 90 + i).does("throwAway", i);
        }
        a.due(8, "of", 4, 12).due(1, "of", 9, 13).due(1, "back").due(0, "led", 4).due(10, "count", 1).due(9, "led", 1);
        for (int i = 4; i < 10; i++) {
            a.due(90 + i, "of", i, 2).due(0, "of", i, 12).due(0, "of", i, 13);
        }
        a.due(1, "of", 3, 2).due(9, "of", 0, 12);
        // In the next image they are, too.
        a.does("wash", 8 | 512, 30).does("throwAway", 4).due(2, "image").does("bleach", 9).does("throwAway", 9)
                .due(2, "back");
        a.due(8, "of", 9, 12).due(0, "of", 9, 13).due(1, "of", 4, 13).due(99, "of", 9, 2);
        // An image of an empty basket: all came since.
        Asked b = new Asked().due(0, "image").does("thing", 0, 1).does("thing", 3, 1).does("mend", 1, 1, 9)
                .due(9, "wash", 3, 30);
        b.does("throwAway", 1).due(0, "back").due(0, "of", 0, 12).due(1, "of", 0, 2).due(0, "of", 1, 13)
                .due(0, "led", 1);
    }
}
