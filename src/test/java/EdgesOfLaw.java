/** Edges of promises 9 and 10: the tape, the law, its faults, what its texts are worth. */
final class EdgesOfLaw {
    private static final int BAD = Edges.BAD, FULL = Edges.FULL;
    private static final int LEAST = Edges.LEAST, MOST = Edges.MOST;

    private EdgesOfLaw() {
    }

    static void test() {
        feed();
        length();
        eachByte();
        lines();
        chains();
        comparisons();
        numbers();
        open();
        tapeIsEmpty();
        faultChangesNothing();
        truth();
        wrapping();
        division();
        whichLine();
        names();
        near();
        mayByWorth();
        withoutText();
    }

    private static void due(String call, long got, long want) {
        Edges.due(call, got, want);
    }

    /** What law() answers to a text on an empty tape. */
    private static void read(String text, int answer) {
        VotesUntouched x = new VotesUntouched();
        due("law \"" + text + "\"", Edges.law(x, text), answer);
        due("the tape behind \"" + text + "\"", x.count(3), 0);
    }

    private static void fault(String text, int place) {
        read(text, -100 - place);
    }

    /** Of a text about nobody in particular: whether the one person there may vote by it. */
    private static void worth(String text, boolean may) {
        VotesUntouched x = Edges.council(1, 1);
        due("law \"" + text + "\"", Edges.law(x, text), 1);
        due("MAY by \"" + text + "\"", x.may(0, 1, 0), may ? 1 : 0);
    }

    /** That the parts of a text are worth as much. */
    private static void same(String one, String other) {
        worth("(" + one + ")=(" + other + ")", true);
        worth("(" + one + ")-(" + other + ")", false);
    }

    // ---- promise 9

    private static void feed() {
        Edges.sentence(9, "A byte (0 .. 255) comes to THE TAPE: how many it has. BAD, FULL (120).");
        for (Edges.Start start : new Edges.Start[] {Edges::empty, Edges::some, Edges::full}) {
            Edges.from(start);
            for (int letter : new int[] {-1, 256, 257, -128, 372, LEAST, MOST}) {
                Edges.refused("feed(" + letter + ")", x -> x.feed(letter), BAD);
            }
        }
        VotesUntouched x = new VotesUntouched();
        due("feed(0)", x.feed(0), 1);
        due("feed(255)", x.feed(255), 2);
        for (int i = 3; i <= 120; i++) {
            due("feed", x.feed('1'), i);
            due("count(3)", x.count(3), i);
        }
        Edges.from(Edges::full);
        Edges.refused("the 121st", c -> c.feed('1'), FULL);
        Edges.refused("the 121st and 122nd", c -> c.feed(0) + c.feed(255), 2 * FULL);
        due("feed(0) takes a place of its own", Edges.law(new VotesUntouched(), "1" + (char) 0), -101);
    }

    // ---- promise 10: the text

    private static void length() {
        Edges.sentence(10, "THE LAW is a TEXT by THE TAPE (at most 120 bytes)");
        read(Edges.times(59, "1+") + "1", 1);
        read(Edges.times(59, "1+") + "-1", 1);
        read(Edges.times(58, "1+") + "9999", 1);
        read(Edges.times(59, "0+") + "12", 1);
        VotesUntouched x = Edges.council(3, 1);
        due("120 bytes", Edges.law(x, "p=1;" + Edges.times(57, "1;") + "99"), 1);
        due("who MAY by 120 bytes", x.vote(1, 0, 0), 2);
        due("120 bytes, the last of which counts", Edges.law(x, Edges.times(29, "0?1;") + "p=2?"), -100 - 120);
        due("120 bytes, the last of which counts", Edges.law(x, Edges.times(29, "0?1;") + "!p+1"), 1);
        due("who MAY by it", x.vote(1, 0, 0), 7);
        due("120 bytes, the last of which counts", Edges.law(x, Edges.times(29, "0?1;") + "0+!p"), 1);
        due("who MAY by it", x.vote(1, 0, 0), 1);
        due("the 121st does not come to it", Edges.law(x, Edges.times(29, "0?1;") + "10-p" + "*0"), 1);
        due("who MAY by it", x.vote(1, 0, 0), 7);
    }

    private static void eachByte() {
        String sentence = "FAULT: the place (from 0) of the first byte with which no TEXT goes on; the length, if it ends too early.";
        Edges.sentence(10, sentence);
        for (int b = 0; b <= 255; b++) {
            char c = (char) b;
            boolean operand = b >= '0' && b <= '9' || "tklpng".indexOf(c) >= 0;
            boolean opens = "(!-".indexOf(c) >= 0;
            boolean joins = "|&<=>+-*/%?;".indexOf(c) >= 0;
            read("" + c, operand ? 1 : opens ? -101 : -100);
            read("1" + c, b >= '0' && b <= '9' ? 1 : joins ? -102 : -101);
            read("t" + c, joins ? -102 : -101);
            read("t+" + c, operand ? 1 : opens ? -103 : -102);
            read("(t" + c, c == ')' ? 1 : joins && c != '?' && c != ';' ? -103 : -102);
        }
        fault("", 0);
        fault("t?1;", 4);
        fault("t?(1", 4);
        fault(Edges.times(60, "1;"), 120);
        fault(Edges.times(40, "1+t"), 3);
        read(Edges.times(40, "1+2"), 1);
        fault(Edges.times(59, "1+") + "1)", 119);
        fault(Edges.times(59, "1+") + "(1", 120);
        fault(")" + Edges.times(119, "1"), 0);
        fault("t k", 1);

        Edges.sentence(10, "No blanks.");
        fault(" t", 0);
        fault("t ", 1);
        fault("t +1", 1);
        fault("t+ 1", 2);
        fault("t\t", 1);
        fault("t;\n1", 2);
        fault("( t)", 1);
        fault("1 2", 1);
    }

    private static void lines() {
        Edges.sentence(10, "LINES, one or more, parted by ; .");
        fault("", 0);
        read("1", 1);
        read("1;2", 1);
        read(Edges.times(59, "1;") + "1", 1);
        fault(";", 0);
        fault("1;", 2);
        fault("1;;1", 2);
        fault(";1", 0);
        fault("(1;1)", 2);

        Edges.sentence(10, "LINE: E, or E ? E (what counts if the first is not 0).");
        read("t?1", 1);
        read("t?1;k?2", 1);
        fault("?", 0);
        fault("t?", 2);
        fault("t?1?2", 3);
        fault("t?;1", 2);
        fault("t??1", 2);
        fault("(t?1)", 2);
        worth("1?1;0", true);
        worth("1?0;1", false);
        worth("-1?1;0", true);
        worth("0?1;0", false);
        worth("0?0;1", true);
    }

    private static void chains() {
        Edges.sentence(10, "E = A { | A }. A = B { & B }.");
        read("t|k|l", 1);
        read("t&k&l", 1);
        fault("|t", 0);
        fault("t||k", 2);
        fault("t|&k", 2);
        fault("&t", 0);
        fault("t&&k", 2);
        fault("t&", 2);
        worth("1|0&0", true);
        worth("0&0|1", true);
        worth("(1|0)&0", false);
        worth("1?0|1;0", true);
        worth("0|1?1;0", true);
        worth("1|1-1", true);
        worth("1&1-1", false);

        Edges.sentence(10, "S = P { + P, - P }. P = O { * O, / O, % O }.");
        read("t+k-l+p", 1);
        read("t*k/l%p", 1);
        fault("+t", 0);
        fault("t++k", 2);
        fault("t*", 2);
        fault("*t", 0);
        fault("t*/k", 2);
        read("t--k", 1);
        read("t*-k", 1);
        same("7-2-1", "4");
        same("7-2+1", "6");
        same("24/4/2", "3");
        same("7*3%4", "1");
        same("7%4*3", "9");
        same("1+2*3", "7");
        same("2*3+1", "7");
        same("9-6/3", "7");
    }

    private static void comparisons() {
        Edges.sentence(10, "B = S, or S < S, S = S, S > S.");
        for (char sign : "<=>".toCharArray()) {
            read("t" + sign + "k", 1);
            for (char next : "<=>".toCharArray()) {
                fault("t" + sign + "k" + next + "l", 3);
                fault("(t" + sign + "k" + next + "l)", 4);
                read("(t" + sign + "k)" + next + "l", 1);
                read("t" + sign + "(k" + next + "l)", 1);
                read("t" + sign + "k&k" + next + "l", 1);
                read("t" + sign + "k?k" + next + "l;k" + next + "l", 1);
            }
            fault("t" + sign, 2);
            fault("" + sign, 0);
        }
        fault("t<=k", 2);
        worth("1+1=2", true);
        worth("2=1+1", true);
        worth("1=1+1", false);
        worth("1=1-1", false);
        worth("3<2*2", true);
        worth("1<2&2<3", true);
    }

    private static void numbers() {
        Edges.sentence(10, "a number (1 to 4 digits)");
        read("0", 1);
        read("9999", 1);
        read("0000", 1);
        fault("00000", 4);
        fault("10000", 4);
        fault("1+12345", 6);
        fault("(12345)", 5);
        fault("12345678", 4);
        read("1234?5678;9012", 1);
        same("0009", "9");
        same("9999+1", "100*100");
        same("1234", "1000+200+30+4");
        worth("0000", false);
        worth("0001", true);
    }

    private static void open() {
        Edges.sentence(10, "At most 6 of ( ! - ahead of an O are open at once.");
        for (int i = 0; i < 729; i++) {
            StringBuilder six = new StringBuilder();
            StringBuilder closed = new StringBuilder();
            for (int rest = i, n = 0; n < 6; rest /= 3, n++) {
                six.append("(!-".charAt(rest % 3));
                closed.append(rest % 3 == 0 ? ")" : "");
            }
            read(six + "t" + closed, 1);
            for (char seventh : "(!-".toCharArray()) {
                fault(six + "" + seventh + "t", 6);
            }
        }
        read("((((((t))))))+((((((t))))))", 1);
        read("!!!!!!t+------t", 1);
        read("!(-(!(t)+!!t))", 1);
        read("-(((((t)))))-(((((t)))))", 1);
        read("((((((t-t))))))", 1);
        read("((((((t)*t)*t)*t)*t)*t)", 1);
        read("t?((((((t))))));!!!!!!t", 1);
        read("(((((!t+-t)))))", 1);
        fault("t?(((((((t)))))))", 8);
        fault("t?1;!!!!!!!t", 10);
        fault("t?1;k?-------t", 12);
        fault("((((((!t))))))", 6);
        fault("((((((t-!t))))))", 8);
        fault("((((((t--t))))))", 8);
        fault("(((((!t+-(t)))))", 9);
        fault("!!!!!!t+!!!!!!!t", 14);
        fault("((((((t))))))+(((((((t)))))))", 20);
        fault("((((((t)))))))", 13);
        fault("((((((t)))))", 12);
    }

    private static void tapeIsEmpty() {
        Edges.sentence(10, "THE TAPE becomes THE LAW: 1; -100 less its FAULT; THE TAPE is empty then.");
        VotesUntouched x = Edges.council(2, 1);
        due("nothing on THE TAPE", x.law(), -100);
        due("a text", Edges.law(x, "p"), 1);
        due("THE TAPE is empty", x.count(3), 0);
        due("who MAY", x.vote(1, 0, 0), 2);
        due("a fault", Edges.law(x, "p=0x"), -103);
        due("THE TAPE is empty", x.count(3), 0);
        due("it goes on from 0", x.feed('!'), 1);
        due("nothing is left ahead", Edges.law(x, "p"), 1);
        due("who MAY", x.vote(1, 0, 0), 1);
        due("a fault at the end", Edges.law(x, Edges.times(60, "1;")), -220);
        due("120 have room again", x.count(3), 0);
        Edges.feed(x, Edges.times(60, "1;"));
        due("120 have room again", x.count(3), 120);
        VotesUntouched y = Edges.council(1, 1);
        due("a long text", Edges.law(y, "0?1;0?1;1"), 1);
        due("by its last line", y.may(0, 1, 0), 1);
        due("a short text", Edges.law(y, "0?1"), 1);
        due("nothing of the long one is left", y.may(0, 1, 0), 0);
    }

    private static void faultChangesNothing() {
        Edges.sentence(10, "-100 less its FAULT");
        Edges.Start empty = () -> {
            VotesUntouched x = Edges.some();
            x.law();
            return x;
        };
        Edges.from(empty);
        for (String text : new String[] {"", "x", "p=", "1;0?", "p=3;0;(", Edges.times(60, "0+")}) {
            Edges.refused("law \"" + text + "\"", x -> Edges.law(x, text), -100 - (text.equals("x") ? 0 : text.length()));
        }
    }

    // ---- promise 10: what a text is worth

    private static void truth() {
        Edges.sentence(10, "| & < = > ! give 1, 0; all is worked out.");
        int[][] twos = {{0, 0}, {0, 1}, {1, 0}, {1, 1}, {0, 7}, {7, 0}, {7, 9}, {9, 7}, {8, 8}};
        for (int[] two : twos) {
            int a = two[0];
            int b = two[1];
            same(a + "|" + b, a != 0 || b != 0 ? "1" : "0");
            same(a + "&" + b, a != 0 && b != 0 ? "1" : "0");
            same(a + "<" + b, a < b ? "1" : "0");
            same(a + "=" + b, a == b ? "1" : "0");
            same(a + ">" + b, a > b ? "1" : "0");
            same("-" + a + "<" + b, -a < b ? "1" : "0");
            same(a + ">-" + b, a > -b ? "1" : "0");
            same("-" + a + "|" + b, a != 0 || b != 0 ? "1" : "0");
        }
        same("!0", "1");
        same("!1", "0");
        same("!9", "0");
        same("!-1", "0");
        same("-!0", "0-1");
        same("!!7", "1");
        same("0|7|9", "1");
        same("7&9&8", "1");
        worth("0&1/0", false);
        worth("1|1/0", true);
    }

    private static void wrapping() {
        Edges.sentence(10, "Ints that wrap");
        // 2048 * 2048 * 512 is 2 to the 31st: the least int.
        same("2048*2048*512*2", "0");
        worth("2048*2048*512<0", true);
        worth("2048*2048*512-1>0", true);
        worth("2048*2048*512-1+1<0", true);
        same("-(2048*2048*512)", "2048*2048*512");
        same("2048*2048*512/-1", "2048*2048*512");
        same("2048*2048*512%-1", "0");
        same("2048*2048*512-1", "2048*2048*256-1+2048*2048*256");
        worth("9999*9999*9999<0", 9999 * 9999 * 9999 < 0);
        worth("2048*2048*512-1>2048*2048*512", true);
        worth("2048*2048*512<2048*2048*512-1", true);
    }

    private static void division() {
        Edges.sentence(10, "/ and % toward 0, by 0 they give 0");
        same("7/2", "3");
        same("-7/2", "-3");
        same("7/-2", "-3");
        same("-7/-2", "3");
        same("7%2", "1");
        same("-7%2", "-1");
        same("7%-2", "1");
        same("-7%-2", "-1");
        same("1/2", "0");
        same("-1/2", "0");
        same("7/0", "0");
        same("7%0", "0");
        same("-7/0", "0");
        same("0/0", "0");
        same("0%0", "0");
        same("7/0+5", "5");
        same("7%0+5", "5");
        same("0/7", "0");
        same("7/1", "7");
        same("7%1", "0");
        same("7/(3-3)", "0");
        same("7/!1", "0");
    }

    private static void whichLine() {
        Edges.sentence(10, "The first LINE without a first E, or whose first E is not 0, counts; none: 0.");
        worth("1;0", true);
        worth("0;1", false);
        worth("0?1;1;0", true);
        worth("0?1;0;1", false);
        worth("0?1;0?1", false);
        worth("0?1", false);
        worth("1?1;0", true);
        worth("1?0;1", false);
        worth("0?0;1?1;0", true);
        worth("0?0;1?0;1", false);
        worth("0-1?1;0", true);
        worth(Edges.times(29, "0?1;") + "1", true);
        worth(Edges.times(29, "0?1;") + "0", false);
        worth(Edges.times(29, "0?1;") + "0?1", false);
        worth(Edges.times(28, "0?1;") + "9?9", true);
        VotesUntouched x = Edges.council(3, 1);
        Edges.law(x, "p=0?0;p=1?1;p-1?2");
        due("another line for each", x.vote(1, 0, 0), 6);
    }

    private static void names() {
        Edges.sentence(10, "NAMES: t OWN TOUCH, k NEAR, l LIKED (all MATTERS of it together), p the PERSON, n how many MATTERS it has,"
            + " g 1 with a gift.");
        VotesUntouched x = Edges.council(10, 6);
        for (int p = 0; p <= 9; p++) {
            Edges.law(x, "p=" + p);
            due("p=" + p, x.vote(32, 1023, 0), 1 << p);
        }
        for (int n = 1; n <= 6; n++) {
            Edges.law(x, "n=" + n);
            due("n=" + n, x.vote((1 << n) - 1, 0, 0), 1023);
            due("n=" + n + " of one more or less", x.vote(n == 6 ? 62 : (1 << n + 1) - 1, 0, 0), 0);
        }
        Edges.law(x, "n=1");
        due("n of the last", x.vote(32, 0, 0), 1023);
        Edges.law(x, "g=1");
        due("g with none", x.vote(1, 0, 0), 0);
        due("g with the first and the last", x.vote(1, 513, 0), 513);
        due("g with all", x.vote(1, 1023, 0), 1023);
        Edges.law(x, "g=0");
        due("no g", x.vote(1, 513, 0), 1022 - 512);
        x.mend(0, 0, 1);
        due("g of one that is touched without a gift", x.vote(1, 0, 0), 1023);
        Edges.law(x, "g=1");
        due("g of one that is touched and has a gift", x.vote(1, 1, 0), 1);
        x.mend(0, 0, 0);
        VotesUntouched y = Edges.council(2, 6);
        for (int m = 0; m < 6; m++) {
            Edges.tell(y, m, 0, 99, 0);
            Edges.tell(y, m, 1, 9, -9);
        }
        Edges.law(y, "t=594");
        due("the most that six touch", y.vote(63, 0, 0), 1);
        Edges.law(y, "t=595");
        due("and a gift", y.vote(63, 1, 0), 1);
        Edges.law(y, "t=1");
        due("a gift to one untouched", y.vote(63, 2, 0), 2);
        Edges.law(y, "l=54");
        due("the most that six are liked", y.vote(63, 0, 0), 1);
        due("of five", y.vote(31, 0, 0), 0);
        Edges.law(y, "l=-54");
        due("the least that six are liked", y.vote(63, 3, 0), 2);
    }

    private static void near() {
        Edges.sentence(10, "NEAR: the fewest STEPS (1 on) to another one whose OWN TOUCH is above 0; 9: none.");
        VotesUntouched x = Edges.council(10, 1);
        Edges.law(x, "k=9");
        due("nobody is touched", x.vote(1, 0, 0), 1023);
        x.mend(0, 0, 1);
        due("no cousins", x.vote(1, 0, 0), 1023);
        for (int i = 0; i < 9; i++) {
            x.cousins(11 * i + 1);
        }
        for (int k = 1; k <= 8; k++) {
            Edges.law(x, "k=" + k);
            due("k=" + k, x.vote(1, 0, 0), 1 << k);
        }
        Edges.law(x, "k=0");
        due("not to itself", x.vote(1, 0, 0), 0);
        due("not to itself, with gifts to all", x.vote(1, 1023, 0), 0);
        Edges.law(x, "k=9");
        due("the touched one has none; the last is nine away", x.vote(1, 0, 0), 513);
        due("both ends are touched, nine away", x.vote(1, 512, 0), 513);
        Edges.law(x, "k=1");
        due("by gifts at both ends", x.vote(1, 512, 0), 258);
        due("two that are touched, one step apart", x.vote(1, 2, 0), 7);
        x.mend(0, 0, 0);
        due("TOUCH 0 is not above 0", x.vote(1, 0, 0), 0);
    }

    private static void mayByWorth() {
        Edges.sentence(10, "Not 0: that one MAY vote on it.");
        worth("0", false);
        worth("1", true);
        worth("2", true);
        worth("-1", true);
        worth("9999", true);
        worth("2048*2048*512", true);
        worth("2048*2048*1024", false);
        VotesUntouched x = Edges.council(3, 1);
        Edges.law(x, "p-1");
        due("-1, 0, 1", x.vote(1, 0, 0), 5);
    }

    private static void withoutText() {
        Edges.sentence(10, "Without a text: if t is 0 and k is above K. K (0 .. 4; 1 at first), QUORUM (0 .. 10; 1 at first).");
        VotesUntouched x = Edges.council(8, 1);
        for (int i = 0; i < 5; i++) {
            x.cousins(11 * i + 1);
        }
        x.mend(0, 0, 1);
        due("K at first: k 1 is not above it, k 2 is", x.vote(1, 0, 0), 252);
        int[] may = {254, 252, 248, 240, 224};
        for (int k = 0; k <= 4; k++) {
            x.rule(0, k);
            due("K " + k, x.vote(1, 0, 0), may[k]);
        }
        due("a gift to one that none is near", x.vote(1, 128, 0), 96);
        x.mend(0, 0, 0);
        due("t is 0 of all", x.vote(1, 0, 0), 255);
        x.mend(0, 0, 99);
        due("t is 99", x.vote(1, 0, 0), 224);
        VotesUntouched y = Edges.council(2, 1);
        y.mend(0, 0, 1);
        due("a text that is faulty is none", Edges.law(y, "1;"), -102);
        due("a text that is faulty is none", y.vote(1, 0, 0), 2);
        due("a text", Edges.law(y, "0"), 1);
        due("a text", y.vote(1, 0, 0), 0);
    }
}
