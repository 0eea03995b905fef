/** Promises 30 to 37: wash, bleach, throwAway, led, image, back, undo, redo. */
final class DeedsTest {
    public static void main(String[] args) {
        wash();
        washToTheEdges();
        bleach();
        throwAway();
        led();
        imageAndBack();
        backWithNewThings();
        undoAndRedo();
        fortyChanges();
        fortyOfMany();
        deedsAreNoChanges();
        Due.end();
    }

    private static void led(WithTheReds w, int... want) {
        for (int what = 0; what < want.length; what++) {
            Due.is("led " + what, w.led(what), want[what]);
        }
    }

    private static void wash() {
        WithTheReds w = Due.four();
        Due.is("13 + 6", w.wash(15, 30), 19);
        Due.is("white's tint", w.of(0, 12), 13);
        Due.is("light's tint", w.of(1, 12), 6);
        Due.is("dark's tint", w.of(2, 12), 0);
        Due.is("white's washed", w.of(0, 2), 1);
        Due.is("red's washed", w.of(3, 2), 1);
        // Red gives 8 now, dark 3.
        Due.is("8 with a cloth is 2", w.wash(9, 31), 2);
        Due.is("white's tints", w.of(0, 12), 15);
        Due.is("light was not in it", w.of(1, 2), 1);
        Due.is("none", w.wash(0, 30), 0);
        w.mend(0, 8, 2);
        Due.is("it does not go", w.wash(1, 30), -5);
        w.mend(0, 8, 15);
        w.throwAway(2);
        Due.is("one thrown away", w.wash(12, 30), -5);
        Due.is("nothing came of it", w.of(3, 2), 2);
        Due.is("set", w.wash(16, 30), -1);
        Due.is("hc 29", w.wash(1, 29), -1);
        Due.is("hc 32", w.wash(1, 32), -1);
        Due.is("hc 100", w.wash(1, 100), -1);
        Due.is("BAD ahead of STATE", w.wash(12, 32), -1);
        Due.is("three runs", w.led(0), 3);
    }

    private static void washToTheEdges() {
        WithTheReds w = Due.four();
        w.mend(0, 2, 98);
        Due.is("law", Due.tell(w, "c=3?60;0"), 1);
        Due.is("60", w.wash(9, 30), 60);
        Due.is("tint 60", w.of(0, 12), 60);
        Due.is("washed 99", w.of(0, 2), 99);
        Due.is("60 more", w.wash(9, 30), 60);
        Due.is("tint 99 at most", w.of(0, 12), 99);
        Due.is("washed 99 at most", w.of(0, 2), 99);
        Due.is("led tells all tints", w.led(1), 120);
    }

    private static void bleach() {
        WithTheReds w = Due.four();
        w.wash(15, 30);
        Due.is("13", w.bleach(0), 13);
        Due.is("no tint", w.of(0, 12), 0);
        Due.is("no tint had", w.bleach(0), 0);
        Due.is("light keeps its tint", w.of(1, 12), 6);
        Due.is("led as it was", w.led(1), 19);
        Due.is("washed as it was", w.of(0, 2), 1);
        Due.is("thing 4", w.bleach(4), -1);
        Due.is("thing -1", w.bleach(-1), -1);
    }

    private static void throwAway() {
        WithTheReds w = Due.four();
        Due.is("three left", w.throwAway(1), 3);
        Due.is("again", w.throwAway(1), -5);
        Due.is("two left", w.throwAway(3), 2);
        Due.is("count", w.count(1), 2);
        Due.is("things", w.count(0), 4);
        Due.is("led", w.led(4), 2);
        Due.is("thing 4", w.throwAway(4), -1);
        Due.is("thing -1", w.throwAway(-1), -1);
        Due.is("a new one comes behind", w.thing(0, 1), 4);
        Due.is("count with it", w.count(1), 3);
        w.throwAway(0);
        w.throwAway(2);
        Due.is("none left", w.throwAway(4), 0);
    }

    private static void led() {
        WithTheReds w = Due.four();
        w.mend(0, 3, 3);
        w.mend(1, 3, 3);
        w.wash(15, 30);
        led(w, 1, 19, 0, 0, 0);
        w.wash(3, 41);
        led(w, 2, 19, 2, 1, 0);
        w.wash(1, 91);
        led(w, 3, 19, 3, 2, 0);
        w.wash(0, 31);
        led(w, 4, 19, 3, 3, 0);
        w.throwAway(2);
        w.wash(4, 31);
        led(w, 4, 19, 3, 3, 1);
        Due.is("what -1", w.led(-1), -1);
        Due.is("what 5", w.led(5), -1);
    }

    private static void imageAndBack() {
        WithTheReds w = Due.four();
        Due.is("no image", w.back(), -5);
        w.wash(15, 31);
        w.throwAway(1);
        Due.is("an image of a run", w.image(), 1);
        w.wash(13, 70);
        w.wash(13, 31);
        w.bleach(0);
        w.throwAway(3);
        w.mend(0, 0, 2);
        w.mend(0, 2, 50);
        Due.is("laid back", w.back(), 1);
        led(w, 1, 10, 0, 1, 1);
        Due.is("washed", w.of(0, 2), 1);
        Due.is("tint", w.of(0, 12), 7);
        Due.is("thrown away then", w.of(1, 13), 1);
        Due.is("not thrown away then", w.of(3, 13), 0);
        Due.is("colour is none of it", w.of(0, 0), 2);
        Due.is("changes are none of it", w.count(3), 4);
        w.wash(8, 30);
        Due.is("laid back again", w.back(), 1);
        w.wash(8, 30);
        w.wash(8, 30);
        Due.is("a newer image", w.image(), 3);
        w.wash(8, 30);
        Due.is("it is the one laid back", w.back(), 3);
        Due.is("its washed", w.of(3, 2), 3);
    }

    private static void backWithNewThings() {
        WithTheReds w = Due.four();
        w.image();
        w.thing(0, 2);
        w.thing(0, 2);
        w.wash(24, 30);
        w.throwAway(5);
        Due.is("pink", w.of(4, 12), 9);
        Due.is("laid back", w.back(), 0);
        Due.is("washed stays", w.of(4, 2), 1);
        Due.is("no tint", w.of(4, 12), 0);
        Due.is("not thrown away", w.of(5, 13), 0);
        Due.is("an old one's washed", w.of(3, 2), 0);
        Due.is("six things", w.count(1), 6);
        Due.is("none thrown away", w.led(4), 0);
    }

    private static void undoAndRedo() {
        WithTheReds w = new WithTheReds();
        w.thing(0, 1);
        Due.is("none", w.undo(), -5);
        w.mend(0, 1, 3);
        w.mend(0, 1, 3);
        w.mend(0, 1, 5);
        w.mend(0, 8, 20);
        w.mend(0, 8, 61);
        Due.is("the same and the refused are none", w.count(3), 3);
        Due.is("undo the drum", w.undo(), 2);
        Due.is("the drum", w.of(0, 8), 15);
        Due.is("undo the dye", w.undo(), 1);
        Due.is("the dye", w.of(0, 1), 3);
        Due.is("redo the dye", w.redo(), 1);
        Due.is("the dye again", w.of(0, 1), 5);
        Due.is("two may be undone", w.count(3), 2);
        w.mend(0, 1, 5);
        Due.is("the same is no other change: redo the drum", w.redo(), 0);
        Due.is("the drum again", w.of(0, 8), 20);
        Due.is("no more", w.redo(), -5);
        w.undo();
        w.undo();
        w.mend(0, 7, 1);
        Due.is("another came behind", w.redo(), -5);
        Due.is("two", w.count(3), 2);
        Due.is("undo it", w.undo(), 1);
        Due.is("undo the first", w.undo(), 0);
        Due.is("none is left", w.undo(), -5);
        Due.is("dye as at first", w.of(0, 1), 0);
        Due.is("by as at first", w.of(0, 7), 7);
        for (int what = 0; what <= 11; what++) {
            int was = w.of(0, what);
            int v = what == 3 || what == 5 ? 7 : 2;
            w.mend(0, what, v);
            Due.is("changed " + what, w.of(0, what), v);
            w.undo();
            Due.is("undone " + what, w.of(0, what), was);
            w.redo();
            Due.is("done again " + what, w.of(0, what), v);
        }
    }

    private static void fortyChanges() {
        WithTheReds w = new WithTheReds();
        w.thing(0, 1);
        for (int i = 1; i <= 45; i++) {
            w.mend(0, 2, i);
            Due.is("kept", w.count(3), Math.min(i, 40));
        }
        for (int i = 39; i >= 0; i--) {
            Due.is("undo", w.undo(), i);
            Due.is("washed", w.of(0, 2), i + 5);
        }
        Due.is("no more", w.undo(), -5);
        for (int i = 39; i >= 0; i--) {
            Due.is("redo", w.redo(), i);
        }
        Due.is("as it was", w.of(0, 2), 45);
        Due.is("no more redo", w.redo(), -5);
    }

    private static String numbers(WithTheReds w) {
        StringBuilder s = new StringBuilder();
        for (int thing = 0; thing < 4; thing++) {
            for (int what = 0; what < 8; what++) {
                s.append(w.of(thing, what)).append(' ');
            }
        }
        for (int what = 8; what <= 11; what++) {
            s.append(w.of(0, what)).append(' ');
        }
        return s.toString();
    }

    /** Changes of many numbers, more than are kept: each stand is come back to, back and forth. */
    private static void fortyOfMany() {
        WithTheReds w = new WithTheReds();
        for (int i = 0; i < 4; i++) {
            w.thing(i, 1);
        }
        String[] stands = new String[54];
        stands[0] = numbers(w);
        for (int i = 1; i < stands.length; i++) {
            int what = i * 5 % 12;
            int number = what < 8 ? i * 3 % 4 : 0;
            w.mend(number, what, w.of(number, what) == 3 ? 1 + what % 8 / 3 * 3 : 3);
            stands[i] = numbers(w);
            Due.that("change " + i + " is one", !stands[i].equals(stands[i - 1]));
        }
        Due.is("forty", w.count(3), 40);
        for (int round = 0; round < 2; round++) {
            for (int i = stands.length - 2; i >= stands.length - 41; i--) {
                w.undo();
                Due.that("undone to stand " + i, numbers(w).equals(stands[i]));
            }
            Due.is("no more", w.undo(), -5);
            for (int i = stands.length - 40; i < stands.length; i++) {
                w.redo();
                Due.that("done again to stand " + i, numbers(w).equals(stands[i]));
            }
            Due.is("no more again", w.redo(), -5);
        }
    }

    private static void deedsAreNoChanges() {
        WithTheReds w = Due.four();
        w.mend(3, 2, 4);
        w.wash(8, 30);
        Due.is("washed by a deed", w.of(3, 2), 5);
        Due.is("three changes", w.count(3), 3);
        Due.is("undone is the latest of mend()", w.undo(), 2);
        Due.is("what it was ahead of it", w.of(3, 2), 0);
        w.wash(8, 30);
        w.bleach(0);
        w.throwAway(0);
        w.thing(0, 1);
        w.image();
        w.back();
        Due.is("deeds come not behind", w.redo(), 0);
        Due.is("what it made", w.of(3, 2), 4);
    }
}
