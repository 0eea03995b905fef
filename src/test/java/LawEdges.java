/** Sentences with a bound about the tape and the law: promises 6 to 8. */
final class LawEdges {
    private static final int MIN = Integer.MIN_VALUE, MAX = Integer.MAX_VALUE;
    // The least int and the greatest, as texts of numbers of 4 digits at most.
    private static final String LEAST_INT = "8192*4*8192*8", GREATEST_INT = "(8192*4*8192*8-1)";

    private LawEdges() {
    }

    static void all() {
        aByteComes();
        theTapeBecomesTheLaw();
        longestText();
        linesOneOrMore();
        aLine();
        anyNumberOfSigns();
        oneCompareAtMost();
        numbersAndNames();
        everyByteFirst();
        everyByteBehind();
        sixOpen();
        intsThatWrap();
        byZero();
        onesAndZeros();
        whatCounts();
        faults();
        heldWithin();
        withoutAText();
        howMuchDye();
    }

    /** What a text gives for a thing with r 7, n 2, c 1, s 5, b 8 at heat 4. */
    private static Asked told(String text) {
        Asked a = new Asked().due(0, "thing", 1, 5).due(0, "mend", 0, 1, 7).due(0, "mend", 0, 2, 2);
        return a.due(6, "mend", 0, 3, 8).law(text);
    }

    private static void worth(String text, int want) {
        Due.is(text, told(text).answer("gives", 0, 4), want);
    }

    private static void fault(String text, int place) {
        Due.is("law " + text, new Asked().tell(text), -100 - place);
    }

    private static void aByteComes() {
        Doc.says("A byte (0 .. 255) comes to THE TAPE: how many it has. BAD, FULL (120).");
        Asked a = new Asked().due(1, "feed", 0).due(2, "feed", 255).due(-1, "feed", -1).due(-1, "feed", 256);
        a.due(2, "count", 2);
        for (int letter : new int[] {-1, 256, -128, MIN, MAX, 256 + 's'}) {
            Twins.bad("feed", letter);
            // BAD goes ahead of FULL.
            Twins.refused(Twins::fullTape, -1, "feed", letter);
        }
        for (int i = 3; i <= 120; i++) {
            a.due(i, "feed", i);
        }
        a.due(-3, "feed", 0).due(120, "count", 2);
        Twins.refused(Twins::fullTape, -3, "feed", 's');
        Twins.refused(Twins::fullTape, -3, "feed", 0);
        Twins.refused(Twins::fullTape, -3, "feed", 255);
    }

    private static void theTapeBecomesTheLaw() {
        Doc.says("THE TAPE becomes THE LAW: 1; -100 less its FAULT; THE TAPE is empty then.");
        Asked a = told("s*2").due(0, "count", 2).due(10, "gives", 0, 3);
        // At a FAULT the tape is empty, too, and the law stays.
        Due.is("a fault", a.tell("s*3;"), -104);
        a.due(0, "count", 2).due(10, "gives", 0, 3).due(-100, "law").due(10, "gives", 0, 3);
        a.due(1, "feed", 'h').due(1, "law").due(9, "gives", 0, 9);
        Asked full = Twins.fullTape().due(1, "law").due(0, "count", 2).due(1, "feed", '1');
        full.due(1, "law").due(1, "gives", 0, 3);
    }

    private static void longestText() {
        Doc.says("THE LAW is a TEXT by THE TAPE (at most 120 bytes):");
        worth("1+".repeat(59) + "1", 60);
        worth("1+".repeat(58) + "11+9", 58 + 20);
        worth("1+".repeat(59) + "12", 59 + 12);
        worth("-1" + "+1".repeat(59), 58);
        worth("0?1;" + "-1" + "+1".repeat(57), 56);
        worth("!1" + "+1".repeat(57) + "?8", 8);
        fault("1+".repeat(60), 120);
        fault("1+".repeat(59) + "1x", 119);
        fault("1+".repeat(59) + "1;", 120);
    }

    private static void linesOneOrMore() {
        Doc.says("LINES, one or more, parted by ; .");
        fault("", 0);
        worth("5", 5);
        worth("0?1;5", 5);
        worth("0?1;".repeat(29) + "5", 5);
        worth("1;2", 1);
        worth("1;".repeat(59) + "2", 1);
        fault(";", 0);
        fault("5;", 2);
        fault(";5", 0);
        fault("5;;5", 2);
        fault("0?1;".repeat(29), 116);
    }

    private static void aLine() {
        Doc.says("LINE: E, or E ? E (what counts if the first is not 0).");
        worth("5", 5);
        worth("1?5", 5);
        worth("-1?5", 5);
        worth("0?5", 0);
        worth("1?0;5", 0);
        fault("?5", 0);
        fault("1?", 2);
        fault("1?;5", 2);
        fault("1??5", 2);
        fault("1?2?3", 3);
        fault("0;1?2?3", 5);
        fault("(1?2)", 2);
        worth("0|1?0|7", 1);
    }

    private static void anyNumberOfSigns() {
        Doc.says("E = A { | A }.");
        worth("0", 0);
        worth("0|0", 0);
        worth("0|3", 1);
        worth("0|0|0|0|0|2", 1);
        fault("|1", 0);
        fault("1|", 2);
        fault("1||1", 2);
        Doc.says("A = B { & B }.");
        worth("3&3", 1);
        worth("3&0", 0);
        worth("3&3&3&3&3&0", 0);
        worth("1|1&0", 1);
        worth("0&1|1", 1);
        fault("&1", 0);
        fault("1&", 2);
        fault("1&&1", 2);
        Doc.says("S = P { + P, - P }.");
        worth("9-5-3", 1);
        worth("9-5+3-1+2-3-5", 0);
        worth("9-5+3-1+2-3-4", 1);
        fault("+1", 0);
        fault("1-", 2);
        fault("1++1", 2);
        worth("5--1", 6);
        Doc.says("P = O { * O, / O, % O }.");
        worth("80/4/5*3%7", 5);
        worth("3*7%5", 1);
        worth("3+4*5-6/2", 20);
        fault("*1", 0);
        fault("1/", 2);
        fault("1%%1", 2);
        fault("1*+1", 2);
    }

    private static void oneCompareAtMost() {
        Doc.says("B = S, or S < S, S = S, S > S.");
        worth("2<3", 1);
        worth("3<3", 0);
        worth("4<3", 0);
        worth("2=3", 0);
        worth("3=3", 1);
        worth("4=3", 0);
        worth("2>3", 0);
        worth("3>3", 0);
        worth("4>3", 1);
        worth("1+1<1+2", 1);
        worth("1<2&2<1|3=3", 1);
        for (String two : new String[] {"1<2<3", "1=1=1", "3>2>1", "1<2=1", "1<2>1"}) {
            fault(two, 3);
        }
        fault("1<2+3*4=5", 7);
        fault("1<2&2<3<4", 7);
        fault("(1<2<3)", 4);
        worth("(1<2)<3", 1);
        worth("1<(2<3)", 0);
        fault("<1", 0);
        fault("1<", 2);
        fault("1<=1", 2);
    }

    private static void numbersAndNames() {
        Doc.says("O = a number (1 to 4 digits), a NAME, ! O, - O, ( E ).");
        worth("9", 9);
        worth("09", 9);
        worth("009", 9);
        worth("0009", 9);
        fault("00009", 4);
        worth("9999-9960", 39);
        worth("1000/100", 10);
        fault("10000", 4);
        fault("1+10000", 6);
        fault("9999r", 4);
        fault("1(", 1);
        fault("()", 1);
        fault("(1)1", 3);
        fault("1+r2", 3);
        fault("(1+2)3", 5);
        fault("(1", 2);
        fault("1)", 1);
        fault("r(", 1);
        fault("1!", 1);
        fault("!", 1);
        fault("-", 1);
        worth("!0", 1);
        worth("!7", 0);
        worth("!!7", 1);
        worth("-0", 0);
        worth("9+-7", 2);
        worth("-!0+9", 8);
        worth("!-0+9", 10);
        worth("!1+9", 9);
        worth("-2*-3", 6);
        worth("(9)", 9);
        fault("(1;2)", 2);
        Doc.says("NAMES: r DYE, n WASHED, h the heat (tens), c COLOUR, s SIZE, b BEARS.");
        int[] named = {7, 2, 4, 1, 5, 8};
        for (int i = 0; i < named.length; i++) {
            String name = "" + "rnhcsb".charAt(i);
            worth(name, named[i]);
            fault(name + name, 1);
            fault(name + "1", 1);
            fault(name.toUpperCase(), 0);
        }
        // The greatest and the least that each may be.
        Asked a = Asked.many(1, 3, 9).law("r*1000+n*10+c*3>9998&s=9&b=9?h;b");
        a.does("mend", 0, 1, 9).does("mend", 0, 2, 99).does("mend", 0, 3, 9).due(9, "gives", 0, 9)
                .due(3, "gives", 0, 3);
        a.does("mend", 0, 3, 3).due(3, "gives", 0, 9);
    }

    /** Of all 256 bytes, those with which a TEXT may begin. */
    private static void everyByteFirst() {
        Doc.says("No blanks.");
        for (char blank : new char[] {' ', '\t', '\n', '\r', 0, 160}) {
            fault(blank + "1", 0);
            fault("1" + blank, 1);
            fault("1" + blank + "+1", 1);
            fault("1+" + blank + "1", 2);
        }
        for (int letter = 0; letter <= 255; letter++) {
            Asked a = new Asked().due(1, "feed", letter);
            boolean whole = letter >= '0' && letter <= '9' || "rnhcsb".indexOf(letter) >= 0;
            boolean begins = "(!-".indexOf(letter) >= 0;
            a.due(whole ? 1 : begins ? -101 : -100, "law");
        }
    }

    /** Of all 256 bytes, those with which a TEXT goes on behind a number, a NAME, and within brackets. */
    private static void everyByteBehind() {
        for (int letter = 0; letter <= 255; letter++) {
            boolean sign = letter > 0 && "|&<=>+-*/%".indexOf(letter) >= 0;
            boolean digit = letter >= '0' && letter <= '9';
            boolean ends = letter == ';' || letter == '?';
            Asked a = new Asked();
            a.due(1, "feed", '1').due(2, "feed", letter).due(digit ? 1 : sign || ends ? -102 : -101, "law");
            a.due(1, "feed", 'r').due(2, "feed", letter).due(sign || ends ? -102 : -101, "law");
            a.due(1, "feed", '(').due(2, "feed", 'r').due(3, "feed", letter);
            a.due(letter == ')' ? 1 : sign ? -103 : -102, "law");
        }
    }

    private static void sixOpen() {
        Doc.says("At most 6 of ( ! - ahead of an O are open at once.");
        worth("((((((9))))))", 9);
        fault("(((((((9)))))))", 6);
        worth("------9", 9);
        fault("-------9", 6);
        worth("!!!!!!9", 1);
        fault("!!!!!!!9", 6);
        worth("(-(!(-9)))+9", 9);
        fault("(-(!(--9)))", 6);
        fault("(-(!(-(9))))", 6);
        fault("(-(!(-!9)))", 6);
        // What is closed is open no more; a - behind an O is none of them.
        worth("((((((1)+(2)))+--3)+1-1)+--4)", 10);
        worth("------1+------1", 2);
        worth("((((((9-1-1-1-1-1-1-1))))))", 2);
        worth("(((((-9+-9+9+9+-9+9+(9))))))", 9);
        fault("((((((1)+(2)+(3)+-4)+--5+---6", 27);
        fault("((((((", 6);
        fault("((((((1", 7);
        fault("((((((-", 6);
    }

    private static void intsThatWrap() {
        Doc.says("Ints that wrap; / and % toward 0,");
        worth(LEAST_INT + "<0", 1);
        worth(LEAST_INT + "-1>0", 1);
        worth(GREATEST_INT + ">0", 1);
        worth(GREATEST_INT + "+1<0", 1);
        worth("-(" + LEAST_INT + ")<0", 1);
        worth(LEAST_INT + "/-1<0", 1);
        worth(LEAST_INT + "%-1+5", 5);
        worth(LEAST_INT + "*2+6", 6);
        worth(GREATEST_INT + "*2+9", 7);
        worth(GREATEST_INT + "*" + GREATEST_INT, 1);
        worth("7/2", 3);
        worth("-7/2+9", 6);
        worth("7/-2+9", 6);
        worth("-7/-2", 3);
        worth("7%4", 3);
        worth("-7%4+9", 6);
        worth("7%-4", 3);
        worth("-7%-4+9", 6);
    }

    private static void byZero() {
        Doc.says("by 0 they give 0;");
        worth("5/0+3", 3);
        worth("5%0+3", 3);
        worth("0/0+3", 3);
        worth("0%0+3", 3);
        worth("-5/(2-2)+3", 3);
        worth(LEAST_INT + "/0+3", 3);
        worth("5/0/0%0+3", 3);
    }

    private static void onesAndZeros() {
        Doc.says("| & < = > ! give 1, 0; all is worked out.");
        worth("5|7", 1);
        worth("5&7", 1);
        worth("-5|0", 1);
        worth("-5&-7", 1);
        worth("0&7", 0);
        worth("!-5", 0);
        worth(LEAST_INT + "|0", 1);
        worth(LEAST_INT + "&1", 1);
        worth(LEAST_INT + "<" + GREATEST_INT, 1);
        worth(LEAST_INT + ">" + GREATEST_INT, 0);
        worth("(1|1)+(1&1)+(1<2)+(1=1)+(2>1)+!0", 6);
        // What does not count is worked out, too, and does no harm.
        worth("1|5/0", 1);
        worth("0&5%0", 0);
        worth("1?5;1/0?2;3%0", 5);
    }

    private static void whatCounts() {
        Doc.says("The first LINE without a first E, or whose first E is not 0, counts; none: 0.");
        worth("0?1;0?2;3;4", 3);
        worth("0?1;2?2;3;4", 2);
        worth("0;3", 0);
        worth("0?1;0;3", 0);
        worth("0?1", 0);
        worth("0?1;0?2;0?3", 0);
        worth("0?9;0?9;0-1?3", 3);
        worth(LEAST_INT + "?4;5", 4);
        worth("r-7?1;n-2?2;h-4?3;6", 6);
    }

    private static void faults() {
        Doc.says("FAULT: the place (from 0) of the first byte with which no TEXT goes on; the length, if it ends too "
                + "early.");
        // The place of a wrong byte, from the first to the last that the tape takes.
        for (int place = 0; place < 120; place++) {
            StringBuilder text = new StringBuilder("1+".repeat(60).substring(0,
                    place)).append(place % 2 == 0 ? '+' : 'x');
            Due.is("a wrong byte at " + place, new Asked().tell(text.toString()), -100 - place);
            // What comes behind it does not matter.
            text.append("((;1".repeat(30)).setLength(120);
            Due.is("a wrong byte at " + place + " of 120", new Asked().tell(text.toString()), -100 - place);
        }
        // Texts that end too early, of every length.
        for (int length = 0; length <= 120; length += 2) {
            fault("1*".repeat(length / 2), length);
        }
        for (int length = 1; length < 120; length += 2) {
            fault("-" + "1&".repeat(length / 2), length);
        }
        // A FAULT leaves nothing behind: not its brackets, not its signs, not its numbers.
        String[] wrong = {"((((((1", "------", "1?2?", "1+(2*(3-", "1;(", "(12", "(1|2", "1<2<", "5?", "!(1"};
        for (String one : wrong) {
            Asked a = told("5");
            Due.that("law " + one + " is a FAULT", a.tell(one) <= -100);
            a.due(5, "gives", 0, 4);
            Due.is("law 1) behind " + one, a.tell("1)"), -101);
            Due.is("law 1?2?3 behind " + one, a.tell("1?2?3"), -103);
            Due.is("law r3 behind " + one, a.tell("r3"), -101);
            a.law("((((((9))))))?8").due(8, "gives", 0, 4).law("3").due(3, "gives", 0, 4);
        }
        told("5").due(-100, "law").due(5, "gives", 0, 4);
    }

    private static void heldWithin() {
        Doc.says("It gives how much dye a THING gives in a RUN (held within 0 .. 99).");
        worth("0-1", 0);
        worth("0", 0);
        worth("1", 1);
        worth("98", 98);
        worth("99", 99);
        worth("100", 99);
        worth(GREATEST_INT, 99);
        worth(LEAST_INT, 0);
        // Held THING by THING, ahead of what is loose.
        Asked a = Asked.many(2, 3, 1).law("h>3?9999;0-9999").due(198, "run", 3, 40, 0).due(0, "run", 3, 30, 0);
        a.due(192, "run", 3, 41, 0).due(0, "run", 3, 31, 0);
    }

    private static void withoutAText() {
        Doc.says("Without a text: r less n (0 at least), times h, by 3 (cut).");
        Asked a = Asked.many(1, 3, 1);
        for (int dye = 0; dye <= 9; dye++) {
            a.does("mend", 0, 1, dye);
            for (int washed : new int[] {0, 1, dye, dye + 1, 99}) {
                a.does("mend", 0, 2, washed);
                for (int heat = 3; heat <= 9; heat++) {
                    a.due(dye > washed ? (dye - washed) * heat / 3 : 0, "gives", 0, heat);
                }
            }
        }
        a.does("mend", 0, 2, 8).due(1, "gives", 0, 3).due(1, "gives", 0, 5).due(2, "gives", 0, 6).due(3, "gives", 0, 9);
    }

    private static void howMuchDye() {
        Doc.says("How much dye a THING gives at a heat. BAD.");
        Asked a = Asked.four().due(9, "gives", 3, 3).due(27, "gives", 3, 9).due(0, "gives", 0, 9);
        for (int heat : new int[] {2, 10, 0, -3, 30, MIN, MAX}) {
            a.due(-1, "gives", 3, heat);
            Twins.bad("gives", 3, heat);
        }
        for (int thing : new int[] {-1, 4, 10, MIN, MAX}) {
            a.due(-1, "gives", thing, 3);
            Twins.bad("gives", thing, 3);
        }
        Twins.tenThings().due(3, "gives", 9, 3).due(-1, "gives", 10, 3);
    }
}
