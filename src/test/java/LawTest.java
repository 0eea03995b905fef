/** Promises 6 to 8: feed, law, gives. */
final class LawTest {
    public static void main(String[] args) {
        feed();
        withoutAText();
        values();
        lines();
        heldWithin();
        faults();
        openAtOnce();
        faultKeepsTheLaw();
        longest();
        givesRefused();
        Due.end();
    }

    private static void feed() {
        WithTheReds w = new WithTheReds();
        Due.is("-1", w.feed(-1), -1);
        Due.is("256", w.feed(256), -1);
        Due.is("none came", w.count(2), 0);
        for (int i = 0; i < 120; i++) {
            Due.is("byte " + i, w.feed(i * 2 % 256), i + 1);
        }
        Due.is("one more", w.feed(0), -3);
        Due.is("BAD goes ahead", w.feed(256), -1);
        Due.is("120", w.count(2), 120);
        Due.is("byte 0 is no law", w.law(), -100);
        Due.is("the tape is empty", w.count(2), 0);
        Due.is("255 is a byte", w.feed(255), 1);
    }

    private static void withoutAText() {
        WithTheReds w = Due.four();
        Due.is("9 * 3 / 3", w.gives(3, 3), 9);
        Due.is("4 * 4 / 3 is cut", w.gives(2, 4), 5);
        Due.is("9 * 9 / 3", w.gives(3, 9), 27);
        w.mend(3, 2, 8);
        Due.is("(9 - 8) * 5 / 3", w.gives(3, 5), 1);
        w.mend(3, 2, 10);
        Due.is("0 at least", w.gives(3, 9), 0);
    }

    /** What the law gives for a thing with r 7, n 2, c 1, s 5, b 8, at heat 4. */
    private static int worth(String text) {
        WithTheReds w = new WithTheReds();
        w.thing(1, 5);
        w.mend(0, 1, 7);
        w.mend(0, 2, 2);
        w.mend(0, 3, 8);
        Due.is("law " + text, Due.tell(w, text), 1);
        return w.gives(0, 4);
    }

    private static void value(String text, int want) {
        Due.is(text, worth(text), want);
    }

    private static void values() {
        value("r", 7);
        value("n", 2);
        value("h", 4);
        value("c", 1);
        value("s", 5);
        value("b", 8);
        value("0042", 42);
        value("2+3*4", 14);
        value("(2+3)*4", 20);
        value("20-5-3", 12);
        value("40/4/2", 5);
        value("7%4*3", 9);
        value("2*7%4", 2);
        value("-7/2+9", 6);
        value("-7%4+9", 6);
        value("5/0+1", 1);
        value("5%0+1", 1);
        value("5/(r-7)", 0);
        value("1-2*-3", 7);
        value("--5", 5);
        value("!5", 0);
        value("!!5", 1);
        value("-!0+9", 8);
        value("!-5+2", 2);
        value("!0*7", 7);
        value("5|2", 1);
        value("0|0", 0);
        value("0|5", 1);
        value("5&2", 1);
        value("5&0", 0);
        value("1|0&0", 1);
        value("(1|0)&0", 0);
        value("3<4", 1);
        value("4<3", 0);
        value("3=3", 1);
        value("3=4", 0);
        value("4>3", 1);
        value("3>3", 0);
        value("1+2=3", 1);
        value("1<2&2<1", 0);
        value("1<2|2<1", 1);
        value("(1<2)<3", 1);
        value("2&1+1", 1);
        value("-1<0", 1);
        value("r*h/(n+1)-c", 8);
        // Java's own ints say how it wraps.
        value("9999*9999*9999*9999%100+50", 9999 * 9999 * 9999 * 9999 % 100 + 50);
    }

    private static void lines() {
        value("0?5;7", 7);
        value("3?5;7", 5);
        value("0?5;0?6", 0);
        value("0?5;1?6;7", 6);
        value("4;5", 4);
        value("0;5", 0);
        value("r>6?r*2;r", 14);
        value("r>7?r*2;r", 7);
        value("-1?5;7", 5);
        value("0|1?5;7", 5);
        value("1?0;7", 0);
    }

    private static void heldWithin() {
        value("9999", 99);
        value("100", 99);
        value("99", 99);
        value("-1", 0);
        value("0-9999", 0);
    }

    private static void fault(String text, int place) {
        Due.is("fault of " + text, Due.tell(new WithTheReds(), text), -100 - place);
    }

    private static void faults() {
        fault("", 0);
        fault(" ", 0);
        fault("r ", 1);
        fault("x", 0);
        fault("R", 0);
        fault("rn", 1);
        fault("r1", 1);
        fault("1r", 1);
        fault("12345", 4);
        fault("00000", 4);
        fault("(1)1", 3);
        fault("1+", 2);
        fault("+1", 0);
        fault("1+*2", 2);
        fault("1!", 1);
        fault("1!=2", 1);
        fault("1<2<3", 3);
        fault("1<2+3<4", 5);
        fault("1=2>3", 3);
        fault("1<=2", 2);
        fault("(1<2<3)", 4);
        fault("(", 1);
        fault("(1", 2);
        fault("()", 1);
        fault("1)", 1);
        fault("(1))", 3);
        fault("1;", 2);
        fault(";1", 0);
        fault("1;;1", 2);
        fault("1?", 2);
        fault("?1", 0);
        fault("1?2?3", 3);
        fault("1?2:3", 3);
        fault("(1?2)", 2);
        fault("(1;2)", 2);
        fault("-", 1);
        fault("!", 1);
        fault("1?2;3?4;5?6?7", 11);
        fault("r\u0080", 1);
        fault("~1", 0);
        fault("1~2", 1);
        value("(1<2)<(3>2)", 0);
        value("1?2;3?4;5", 2);
        value("0?2;3?4;5", 4);
    }

    private static void openAtOnce() {
        value("((((((9))))))", 9);
        fault("(((((((9)))))))", 6);
        value("------9", 9);
        fault("-------9", 6);
        value("!!!!!!9", 1);
        fault("!!!!!!!9", 6);
        value("-(-(-(9)))+20", 11);
        fault("-(-(-(-9)))", 6);
        value("-(-(-(9-9-9)))", 9);
        value("((((((1))))))+((((((2))))))", 3);
        value("-----(1)------(2)+20", 21);
        fault("-----(1)-------(2)+20", 15);
        value("((((((1)+(2)))+--3)))", 6);
        fault("((((((1)+(2)))+----3)))", 18);
        fault("((((((1+(", 8);
        fault("((((((1+-", 8);
    }

    private static void faultKeepsTheLaw() {
        WithTheReds w = new WithTheReds();
        w.thing(0, 5);
        Due.is("a law", Due.tell(w, "s*2"), 1);
        Due.is("it gives", w.gives(0, 3), 10);
        Due.is("a fault", Due.tell(w, "s*3;"), -104);
        Due.is("the tape is empty then, too", w.count(2), 0);
        Due.is("the law is as it was", w.gives(0, 3), 10);
        Due.is("no text is a fault", w.law(), -100);
        Due.is("and changes no law", w.gives(0, 3), 10);
        Due.is("another law", Due.tell(w, "h"), 1);
        Due.is("it gives by heat", w.gives(0, 9), 9);
    }

    private static void longest() {
        StringBuilder text = new StringBuilder("1");
        while (text.length() < 119) {
            text.append("+1");
        }
        Due.is("119 bytes", worth(text.toString()), 60);
        Due.is("120 bytes that end too early", Due.tell(new WithTheReds(), text.append('+').toString()), -220);
        String deep = "1|1&1<1+1*(1|1&1<1+1*(1|1&1<1+1*(1|1&1<1+1*(1|1&1<1+1*(1|1&1<1+1*(1|0&1<2+2*2))))))?5;6";
        Due.is("all ranks open at once", worth(deep), 5);
    }

    private static void givesRefused() {
        WithTheReds w = Due.four();
        Due.is("heat 2", w.gives(3, 2), -1);
        Due.is("heat 10", w.gives(3, 10), -1);
        Due.is("thing 4", w.gives(4, 3), -1);
        Due.is("thing -1", w.gives(-1, 3), -1);
        w.throwAway(3);
        Due.is("a thrown away one gives by its numbers", w.gives(3, 3), 9);
    }
}
