/** Each promise by hand: ordinary calls, the edges that the document names, wrong calls. */
public final class PromisesTest {
    private static final int BAD = -1, NOT = -2, FULL = -3, STATE = -5, VOID = -2000000000;
    private static final int LEAST = Integer.MIN_VALUE, MOST = Integer.MAX_VALUE;

    private static int promise;
    private static int checks;
    private static int wrong;

    private static void due(String call, long got, long want) {
        checks++;
        if (got != want) {
            wrong++;
            System.out.println("promise " + promise + ": " + call + " answered " + got + ", due is " + want);
        }
    }

    // ---- what many tests begin with

    private static VotesUntouched council(int matters, int... fees) {
        VotesUntouched x = new VotesUntouched();
        for (int fee : fees) {
            x.person(fee);
        }
        for (int i = 0; i < matters; i++) {
            x.matter();
        }
        return x;
    }

    /** Of one matter: how much each of the people is touched, likes it. */
    private static void tell(VotesUntouched x, int matter, int what, int... numbers) {
        for (int p = 0; p < numbers.length; p++) {
            x.mend(10 * p + matter, what, numbers[p]);
        }
    }

    private static int law(VotesUntouched x, String text) {
        for (int i = 0; i < text.length(); i++) {
            x.feed(text.charAt(i));
        }
        return x.law();
    }

    private static void row(VotesUntouched x, int shelf, int sort, int... values) {
        x.row(shelf, sort, values.length);
        for (int i = 0; i < values.length; i++) {
            x.put(shelf, i, values[i]);
        }
    }

    private static String elements(VotesUntouched x, int shelf, int n) {
        StringBuilder s = new StringBuilder();
        for (int i = 0; i < n; i++) {
            s.append(i == 0 ? "" : " ").append(x.element(shelf, i));
        }
        return s.toString();
    }

    private static void dueElements(String call, VotesUntouched x, int shelf, String want) {
        String got = elements(x, shelf, want.split(" ").length);
        checks++;
        if (!got.equals(want)) {
            wrong++;
            System.out.println("promise " + promise + ": after " + call + " there stands " + got + ", due is " + want);
        }
    }

    // ---- people, matters

    private static void newObject() {
        promise = 1;
        VotesUntouched x = new VotesUntouched();
        for (int what = 0; what <= 6; what++) {
            due("count(" + what + ")", x.count(what), 0);
        }
        for (int s = 0; s < 6; s++) {
            due("taken(" + s + ", 0)", x.taken(s, 0), -11);
        }
        due("hermit()", x.hermit(), STATE);
        due("led(0)", x.led(0), STATE);
        due("led(3)", x.led(3), 0);
        due("led(4)", x.led(4), 0);
        due("back()", x.back(), STATE);
        due("undo()", x.undo(), STATE);
        due("redo()", x.redo(), STATE);
        due("trace(0)", x.trace(0), BAD);
        due("law()", x.law(), -100);
        due("rule(0, 1)", x.rule(0, 1), 1);
        due("rule(1, 1)", x.rule(1, 1), 1);
    }

    private static void person() {
        promise = 2;
        VotesUntouched x = new VotesUntouched();
        due("person(-1)", x.person(-1), BAD);
        due("person(100)", x.person(100), BAD);
        due("person(least)", x.person(LEAST), BAD);
        due("person(0)", x.person(0), 0);
        due("person(99)", x.person(99), 1);
        for (int i = 2; i < 10; i++) {
            due("person(7)", x.person(7), i);
        }
        due("the eleventh", x.person(7), FULL);
        due("wrong and full", x.person(100), BAD);
        due("count(0)", x.count(0), 10);
        due("of(1, 10)", x.of(1, 10), 99);
    }

    private static void people() {
        promise = 3;
        VotesUntouched x = new VotesUntouched();
        due("nothing on the shelf", x.people(0, 0, 3), 0);
        row(x, 0, 0, 5, 6, 99, 0, 100, 8);
        due("shelf -1", x.people(-1, 0, 1), BAD);
        due("shelf 6", x.people(6, 0, 1), BAD);
        due("none of them", x.people(0, 0, 0), BAD);
        due("eleven of them", x.people(0, 0, 11), BAD);
        due("from below the row", x.people(0, -1, 3), 0);
        due("from behind the row", x.people(0, 6, 3), 0);
        due("from far behind the row", x.people(0, MOST, 10), 0);
        due("two of them", x.people(0, 1, 2), 2);
        due("of(0, 10)", x.of(0, 10), 6);
        due("of(1, 10)", x.of(1, 10), 99);
        due("until one is not so", x.people(0, 2, 10), 2);
        due("from one that is not so", x.people(0, 4, 2), 0);
        due("until the row ends", x.people(0, 5, 2), 1);
        due("count(0)", x.count(0), 5);
        row(x, 1, 0, 1, -1, 1);
        due("until a byte below 0", x.people(1, 0, 3), 1);
        for (int sort = 1; sort <= 4; sort++) {
            x.row(2, sort, 5);
            due("a row of sort " + sort, x.people(2, 0, 1), -12);
        }
        x.body(0);
        x.keep(2, 0);
        due("a voter", x.people(2, 0, 1), -12);
        due("wrong and a voter", x.people(2, 0, 11), BAD);
        x.row(3, 0, 60);
        due("until it is full", x.people(3, 50, 10), 4);
        due("when it is full", x.people(3, 0, 1), 0);
        due("count(0)", x.count(0), 10);
    }

    private static void cousins() {
        promise = 4;
        VotesUntouched x = council(0, 0, 0, 0, 0, 0, 0);
        due("cousins(1)", x.cousins(1), 1);
        due("the same", x.cousins(1), BAD);
        due("the same the other way", x.cousins(10), BAD);
        due("one and the same", x.cousins(22), BAD);
        due("no such one", x.cousins(60), BAD);
        due("no such other", x.cousins(6), BAD);
        due("below 0", x.cousins(-1), BAD);
        due("too much", x.cousins(101), BAD);
        due("far too much", x.cousins(MOST), BAD);
        int[] pairs = {2, 3, 4, 5, 21, 31, 41, 51, 32, 42, 52};
        for (int i = 0; i < pairs.length; i++) {
            due("cousins(" + pairs[i] + ")", x.cousins(pairs[i]), i + 2);
        }
        due("the thirteenth", x.cousins(43), FULL);
        due("pairs already and full", x.cousins(25), BAD);
        due("one and the same and full", x.cousins(33), BAD);
        due("count(2)", x.count(2), 12);
        due("the refused have no step", x.of(43, 30), 2);
    }

    private static void matter() {
        promise = 5;
        VotesUntouched x = council(0, 0, 0);
        for (int i = 0; i < 6; i++) {
            due("matter()", x.matter(), i);
            due("TOUCH", x.of(10 + i, 0), 0);
            due("LIKED", x.of(10 + i, 1), 0);
            due("RUMOUR", x.of(i, 20), 12);
        }
        due("the seventh", x.matter(), FULL);
        due("count(1)", x.count(1), 6);
    }

    private static void mend() {
        promise = 6;
        VotesUntouched x = council(2, 0, 0, 0);
        due("mend(21, 0, 99)", x.mend(21, 0, 99), 0);
        due("mend(21, 1, -9)", x.mend(21, 1, -9), 0);
        due("mend(1, 2, 0)", x.mend(1, 2, 0), 12);
        due("mend(21, 0, 0)", x.mend(21, 0, 0), 99);
        due("mend(21, 1, 9)", x.mend(21, 1, 9), -9);
        due("mend(1, 2, 12)", x.mend(1, 2, 12), 0);
        due("others are as they were", x.of(20, 1), 0);
        int[][] bad = {
            {21, 0, 100}, {21, 0, -1}, {21, 1, 10}, {21, 1, -10}, {1, 2, 13}, {1, 2, -1},
            {22, 0, 1}, {30, 0, 1}, {-1, 0, 1}, {-10, 1, 1}, {LEAST, 0, 1}, {MOST, 1, 1}, {121, 0, 1},
            {2, 2, 1}, {-1, 2, 1}, {10, 2, 1}, {21, 3, 1}, {21, -1, 1},
        };
        for (int[] b : bad) {
            due("mend(" + b[0] + ", " + b[1] + ", " + b[2] + ")", x.mend(b[0], b[1], b[2]), VOID);
        }
        due("LIKED", x.of(21, 1), 9);
        due("TOUCH", x.of(21, 0), 0);
        due("changes", x.count(4), 6);
    }

    private static void rule() {
        promise = 7;
        VotesUntouched x = council(1, 0, 0, 0);
        due("rule(0, 4)", x.rule(0, 4), 1);
        due("rule(0, 5)", x.rule(0, 5), BAD);
        due("rule(0, -1)", x.rule(0, -1), BAD);
        due("rule(0, 0)", x.rule(0, 0), 4);
        due("rule(1, 10)", x.rule(1, 10), 1);
        due("rule(1, 11)", x.rule(1, 11), BAD);
        due("rule(1, -1)", x.rule(1, -1), BAD);
        due("rule(1, 0)", x.rule(1, 0), 10);
        due("rule(2, 0)", x.rule(2, 0), BAD);
        due("rule(-1, 0)", x.rule(-1, 0), BAD);
        due("K is as told", x.rule(0, 1), 0);
        due("QUORUM is as told", x.rule(1, 1), 0);
        due("a rule is no change", x.count(4), 0);
        x.cousins(1);
        x.cousins(12);
        x.mend(0, 0, 1);
        due("K 1", x.vote(1, 0, 0), 4);
        x.rule(0, 2);
        due("K 2", x.vote(1, 0, 0), 0);
        x.rule(0, 0);
        due("K 0", x.vote(1, 0, 0), 6);
        tell(x, 0, 1, 0, 1, 1);
        x.rule(1, 2);
        due("QUORUM 2", x.vote(1, 0, 3), 1);
        x.rule(1, 3);
        due("QUORUM 3", x.vote(1, 0, 3), 0);
    }

    private static void of() {
        promise = 8;
        VotesUntouched x = council(2, 3, 14, 0, 0, 0, 0, 0, 0, 0, 98);
        x.mend(91, 0, 12);
        x.mend(90, 1, -4);
        x.mend(1, 2, 5);
        due("TOUCH", x.of(91, 0), 12);
        due("no TOUCH", x.of(90, 0), 0);
        due("LIKED", x.of(90, 1), -4);
        due("not LIKED", x.of(91, 1), 0);
        due("FEE", x.of(1, 10), 14);
        due("FEE of the last", x.of(9, 10), 98);
        due("RUMOUR", x.of(1, 20), 5);
        due("RUMOUR at first", x.of(0, 20), 12);
        int[][] bad = {
            {92, 0}, {92, 1}, {-1, 0}, {100, 1}, {MOST, 0}, {10, 10}, {-1, 10}, {2, 20}, {-1, 20}, {100, 30},
            {-1, 30}, {0, 2}, {0, -1}, {0, 11}, {0, 31},
        };
        for (int[] b : bad) {
            due("of(" + b[0] + ", " + b[1] + ")", x.of(b[0], b[1]), VOID);
        }
        due("to itself", x.of(33, 30), 0);
        due("to a stranger", x.of(3, 30), 9);
        for (int i = 0; i < 9; i++) {
            x.cousins(11 * i + 1);
        }
        for (int i = 0; i < 10; i++) {
            due("of(" + i + ", 30)", x.of(i, 30), i);
            due("of(" + 10 * i + ", 30)", x.of(10 * i, 30), i);
        }
        x.cousins(92);
        due("a shorter way", x.of(9, 30), 3);
        due("a shorter way round", x.of(80, 30), 4);
        due("between", x.of(47, 30), 3);
        VotesUntouched y = council(0, 0, 0, 0, 0);
        y.cousins(1);
        y.cousins(23);
        due("two families", y.of(3, 30), 9);
        y.cousins(30);
        due("joined", y.of(12, 30), 3);
        due("no person", y.of(4, 30), VOID);
    }

    private static void feed() {
        promise = 9;
        VotesUntouched x = new VotesUntouched();
        due("feed(-1)", x.feed(-1), BAD);
        due("feed(256)", x.feed(256), BAD);
        for (int i = 1; i <= 120; i++) {
            due("feed", x.feed(i == 1 ? 0 : i == 2 ? 255 : '1'), i);
        }
        due("the 121st", x.feed('1'), FULL);
        due("wrong and full", x.feed(256), BAD);
        due("count(3)", x.count(3), 120);
        due("law()", x.law(), -100);
        due("count(3)", x.count(3), 0);
        due("anew", x.feed('1'), 1);
    }

    private static void faults() {
        promise = 10;
        String[] whole = {
            "t", "0", "9999", "0000", "t?1", "t;k", "t?1;0", "k>1&t=0", "!t", "-t", "!-!-!-t", "((((((t))))))", "!!!!!!t+!!!!!!t",
            "t--t", "t-!t", "t+k*l/p%n-g", "t|k|l&p&n", "t<k&k<t|t=t", "(t<k)<l", "(t|k)*2", "!(t)", "-(-(1))", "1*-1",
            "(t);(k)?(l);p", "!(!(!(t)))", "t|k?t|k", "((((((t))))))?((((((t))))))", "t;!-!-!-t",
        };
        for (String text : whole) {
            VotesUntouched x = new VotesUntouched();
            due("law \"" + text + "\"", law(x, text), 1);
            due("the tape behind \"" + text + "\"", x.count(3), 0);
        }
        Object[][] faulty = {
            {"", 0}, {"x", 0}, {" t", 0}, {"t ", 1}, {"T", 0}, {"tt", 1}, {"t1", 1}, {"1t", 1}, {"12345", 4}, {"00000", 4},
            {"t+12345", 6}, {"t?", 2}, {"t;", 2}, {"?t", 0}, {";t", 0}, {"t;;t", 2}, {"t?k?l", 3}, {"t??k", 2}, {"t?;k", 2},
            {"t<k<l", 3}, {"t=k=l", 3}, {"t>k=l", 3}, {"t<=k", 2}, {"t|", 2}, {"t&", 2}, {"t*", 2}, {"t+*k", 2}, {"t**k", 2},
            {"(", 1}, {")", 0}, {"()", 1}, {"(t", 2}, {"(t))", 3}, {"(t?k)", 2}, {"(t;k)", 2}, {"t(", 1}, {"t!", 1}, {"!", 1},
            {"-", 1}, {"!)", 1}, {"+t", 0}, {"(((((((t)))))))", 6}, {"!!!!!!!t", 6}, {"-------t", 6}, {"!-(!-((", 6},
            {"((((((!t))))))", 6}, {"!!!!!!1+(-!-!-!", 14}, {"t&&k", 2}, {"t|k,l", 3}, {"t\u00e9", 1}, {"(t<k<l)", 4},
        };
        for (Object[] f : faulty) {
            VotesUntouched x = new VotesUntouched();
            due("law \"" + f[0] + "\"", law(x, (String) f[0]), -100 - (Integer) f[1]);
            due("the tape behind \"" + f[0] + "\"", x.count(3), 0);
        }
        VotesUntouched x = council(1, 0, 0);
        due("a law", law(x, "p"), 1);
        due("a faulty law", law(x, "p+"), -102);
        due("the law before it stays", x.vote(1, 0, 0), 2);
        due("no law at all", x.law(), -100);
        due("the law before it stays", x.vote(1, 0, 0), 2);
        due("another law", law(x, "p=0"), 1);
        due("it is in force", x.vote(1, 0, 0), 1);
        StringBuilder sum = new StringBuilder("p");
        while (sum.length() + 2 <= 120) {
            sum.append("+1");
        }
        due("119 bytes", law(x, sum.toString()), 1);
        due("119 bytes and a sign", law(x, sum + "+"), -220);
        StringBuilder open = new StringBuilder();
        for (int i = 0; i < 60; i++) {
            open.append("1;");
        }
        due("120 bytes that end too early", law(x, open.toString()), -220);
    }

    private static void worths() {
        promise = 10;
        // Person 0: t 0, k 1, l 4; person 1: t 5, k 9, l -2; person 2: t 0, k 1, l 0; person 3: t 0, k 9, l 7.
        VotesUntouched x = council(2, 0, 0, 0, 0);
        x.cousins(1);
        x.cousins(12);
        tell(x, 0, 0, 0, 5, 0, 0);
        tell(x, 0, 1, 4, -2, 0, 7);
        Object[][] texts = {
            {"t", 2}, {"!t", 13}, {"k=1", 5}, {"k=9", 10}, {"l", 11}, {"l>0", 9}, {"l<0", 2}, {"l=0", 4}, {"l=-2", 2},
            {"p", 14}, {"p=3", 8}, {"n", 15}, {"n-1", 0}, {"g", 0}, {"p&t", 2}, {"p&l", 10}, {"t|l", 11},
            {"0", 0}, {"1", 15}, {"0001", 15}, {"9999=9999", 15}, {"-1", 15},
            {"1+2*3=7", 15}, {"(1+2)*3=9", 15}, {"7-2-1=4", 15}, {"7-(2-1)=6", 15}, {"24/4/2=3", 15}, {"7/2=3", 15},
            {"-7/2=-3", 15}, {"-7%3=-1", 15}, {"7%-3=1", 15}, {"7/0", 0}, {"7%0", 0}, {"7/t=1", 2}, {"7/0=0", 15},
            {"5%t=0", 15}, {"2*3%4=2", 15}, {"!5", 0}, {"!0", 15}, {"!!5=1", 15}, {"!t=0", 2}, {"!(t=0)", 2}, {"-p<0", 14},
            {"5&6=1", 0}, {"(5&6)=1", 15}, {"(5|0)=1", 15}, {"(0|0)=0", 15}, {"(5&0)=0", 15}, {"1|0&0", 15}, {"(1|0)&0", 0},
            {"1<2", 15}, {"2<1", 0}, {"2<2", 0}, {"(1=1)=1", 15}, {"(p=1)+1=2", 2}, {"2>1", 15}, {"2>2", 0}, {"1>2", 0}, {"(2>1)=1", 15}, {"(1<2)+(2<1)=1", 15},
            {"0<1&1<0|p=2", 4}, {"--5=5", 15}, {"3--2=5", 15}, {"3-!0=2", 15},
            {"9999*9999*9999=0-1", 0}, {"9999*9999*100*100>0", 0}, {"2048*2048*512<0", 15}, {"2048*2048*512*2=0", 15},
            {"-2048*2048*512/-1<0", 15}, {"-2048*2048*512%-1=0", 15},
            {"t?0;1", 13}, {"t?1;0", 2}, {"t?1", 2}, {"0?1", 0}, {"p=0?1;p=1?0;p=2?5", 5}, {"l>0?1;t?0;p", 13},
            {"1?0;1", 0}, {"1;0", 15}, {"0;1", 0}, {"0?1;0?1;0?1", 0}, {"p-1?p-2;1", 11}, {"7?-1", 15}, {"1?0|p;0", 14}, {"1?p&1|0", 14}, {"p?((((((1))))))", 14}, 
        };
        for (Object[] t : texts) {
            due("law \"" + t[0] + "\"", law(x, (String) t[0]), 1);
            due("who MAY by \"" + t[0] + "\"", x.vote(1, 0, 0), (Integer) t[1]);
        }
        law(x, "g");
        due("g", x.vote(1, 10, 0), 10);
        law(x, "t");
        due("t with gifts", x.vote(1, 9, 0), 11);
        law(x, "t=6");
        due("t with a gift to one that is touched", x.vote(1, 2, 0), 2);
        law(x, "n=2");
        due("n of a bundle of two", x.vote(3, 0, 0), 15);
        law(x, "k=1");
        due("k with gifts", x.vote(1, 4, 0), 7);
        due("k with a gift to itself", x.vote(2, 1, 0), 2);
        tell(x, 1, 1, -4, 3, 2, 0);
        law(x, "l=0");
        due("l together", x.vote(3, 0, 0), 1);
        tell(x, 1, 0, 1, 3, 0, 0);
        law(x, "t=8");
        due("t together", x.vote(3, 0, 0), 2);
    }

    // ---- votes

    private static void may() {
        promise = 11;
        VotesUntouched x = council(2, 0, 0, 0, 0);
        x.cousins(1);
        x.cousins(12);
        tell(x, 0, 0, 7, 0, 0, 0);
        due("touched", x.may(0, 1, 0), 0);
        due("a cousin", x.may(1, 1, 0), 0);
        due("a cousin's cousin", x.may(2, 1, 0), 1);
        due("a stranger", x.may(3, 1, 0), 1);
        due("another matter", x.may(0, 2, 0), 1);
        due("both", x.may(0, 3, 0), 0);
        due("with a gift", x.may(3, 1, 8), 0);
        due("with a gift to a cousin", x.may(1, 2, 4), 0);
        due("with a gift to another", x.may(3, 1, 4), 1);
        int[][] bad = {
            {-1, 1, 0}, {4, 1, 0}, {MOST, 1, 0}, {0, 0, 0}, {0, -1, 0}, {0, 4, 0}, {0, MOST, 0}, {0, LEAST, 0}, {0, 1, -1},
            {0, 1, 16}, {0, 1, LEAST}, {0, 1, MOST},
        };
        for (int[] b : bad) {
            due("may(" + b[0] + ", " + b[1] + ", " + b[2] + ")", x.may(b[0], b[1], b[2]), BAD);
        }
        due("with all gifts", x.may(0, 2, 15), 0);
        law(x, "p-2");
        due("by the law", x.may(2, 1, 0), 0);
        due("by the law, below 0", x.may(0, 1, 0), 1);
    }

    private static void vote() {
        promise = 12;
        VotesUntouched x = council(2, 0, 0, 0, 0);
        tell(x, 0, 1, 3, -1, 0, 2);
        tell(x, 1, 1, -3, 2, 0, -3);
        x.mend(30, 0, 1);
        due("who MAY", x.vote(1, 0, 0), 7);
        due("for it", x.vote(1, 0, 1), 1);
        due("against it", x.vote(1, 0, 2), 2);
        due("as many for as against", x.vote(1, 0, 3), 0);
        due("who MAY with gifts", x.vote(1, 2, 0), 5);
        due("for it with gifts", x.vote(1, 2, 1), 1);
        due("against it with gifts", x.vote(1, 2, 2), 0);
        due("CARRIED with gifts", x.vote(1, 2, 3), 1);
        due("LIKED together: for", x.vote(3, 0, 1), 2);
        due("LIKED together: against", x.vote(3, 0, 2), 0);
        due("LIKED together: CARRIED", x.vote(3, 0, 3), 1);
        due("more against", x.vote(2, 0, 3), 0);
        x.rule(1, 3);
        due("as many MAY as QUORUM", x.vote(3, 0, 3), 1);
        x.rule(1, 4);
        due("fewer MAY than QUORUM", x.vote(3, 0, 3), 0);
        int[][] bad = {{0, 0, 0}, {4, 0, 0}, {-1, 0, 0}, {1, -1, 0}, {1, 16, 0}, {1, 0, 4}, {1, 0, -1}, {1, 0, LEAST}};
        for (int[] b : bad) {
            due("vote(" + b[0] + ", " + b[1] + ", " + b[2] + ")", x.vote(b[0], b[1], b[2]), BAD);
        }
        VotesUntouched nobody = council(1);
        nobody.rule(1, 0);
        due("nobody, QUORUM 0", nobody.vote(1, 0, 3), 0);
        due("nobody to give to", nobody.vote(1, 1, 3), BAD);
    }

    private static void together() {
        promise = 13;
        VotesUntouched x = council(4, 0, 0);
        tell(x, 0, 1, -1, -1);
        tell(x, 1, 1, -2, -2);
        tell(x, 2, 1, -3, -3);
        tell(x, 3, 1, 4, 4);
        due("by itself", x.together(3), 8);
        due("with one", x.together(0), 9);
        due("with one", x.together(1), 10);
        due("with one", x.together(2), 12);
        tell(x, 2, 1, -4, -4);
        due("with none", x.together(2), NOT);
        tell(x, 2, 1, 3, 3);
        due("of like ones the least", x.together(0), 5);
        tell(x, 0, 1, -7, -6);
        due("with two that it has", x.together(0), 13);
        VotesUntouched y = council(2, 0, 0, 0);
        tell(y, 0, 1, 1, 0, 0);
        due("the first by itself", y.together(0), 1);
        tell(y, 0, 1, -1, 0, 0);
        tell(y, 1, 1, 2, -1, -1);
        due("with another: as many against", y.together(0), NOT);
        tell(y, 1, 1, 2, -1, 0);
        tell(y, 0, 1, -1, 2, 0);
        due("all", y.together(0), 3);
        due("no such", x.together(4), BAD);
        due("no such", x.together(-1), BAD);
    }

    private static void silenced() {
        promise = 14;
        VotesUntouched x = council(2, 9, 4, 5, 20, 3);
        tell(x, 0, 1, -1, -1, -1, 1, 1);
        due("CARRIED by gifts", x.silenced(1, 0), 6);
        due("their FEES", x.silenced(1, 1), 9);
        tell(x, 0, 1, -1, -1, 0, 1, 1);
        due("by one gift", x.silenced(1, 0), 2);
        due("its FEE", x.silenced(1, 1), 4);
        tell(x, 0, 1, 0, 0, 0, 1, 1);
        due("without", x.silenced(1, 0), 0);
        due("without FEES", x.silenced(1, 1), 0);
        due("nobody for it", x.silenced(2, 0), NOT);
        due("nobody for it", x.silenced(2, 1), NOT);
        law(x, "g");
        x.rule(1, 5);
        due("all gifts", x.silenced(1, 0), 31);
        due("all FEES", x.silenced(1, 1), 41);
        VotesUntouched y = council(1, 8, 3, 5, 0, 8);
        y.cousins(1);
        y.cousins(12);
        tell(y, 0, 1, -1, 0, 0, 1, 0);
        due("a cousin's gift is cheaper", y.silenced(1, 0), 2);
        due("its FEE", y.silenced(1, 1), 3);
        tell(y, 0, 1, -1, 0, 0, 1, -1);
        due("two must be silent", y.silenced(1, 0), 18);
        due("their FEES", y.silenced(1, 1), 11);
        y.rule(0, 0);
        tell(y, 0, 1, -1, -1, -1, 1, 1);
        due("two of three, the cheapest", y.silenced(1, 0), 6);
        int[][] bad = {{0, 0}, {4, 0}, {-1, 1}, {1, 2}, {1, -1}};
        for (int[] b : bad) {
            due("silenced(" + b[0] + ", " + b[1] + ")", x.silenced(b[0], b[1]), BAD);
        }
        VotesUntouched z = council(1, 5, 2, 3, 1);
        tell(z, 0, 1, 0, 0, 0, 1);
        law(z, "p=0?0;g");
        due("a gift that lets one vote", z.silenced(1, 0), 8);
        law(z, "p<3?g;g=0");
        tell(z, 0, 1, 3, 1, 1, -1);
        due("cheapest to silence and to let", z.silenced(1, 0), 10);
        tell(z, 0, 1, 1, 0, 0, 0);
        due("dear", z.silenced(1, 1), 5);
    }

    private static void likeGifts() {
        promise = 14;
        VotesUntouched x = council(1, 2, 3, 0, 5);
        tell(x, 0, 1, -1, -1, 1, 0);
        due("without cousins: both", x.silenced(1, 0), 3);
        x.cousins(30);
        x.cousins(31);
        due("of like FEES the fewest", x.silenced(1, 0), 8);
        due("their FEES", x.silenced(1, 1), 5);
        VotesUntouched y = council(1, 4, 0, 4, 4);
        tell(y, 0, 1, 0, 1, 0, -1);
        y.cousins(20);
        y.cousins(3);
        due("of like FEES and as few the least bits", y.silenced(1, 0), 1);
        VotesUntouched z = council(1, 0, 0, 0, 7);
        tell(z, 0, 1, 0, 0, 1, -1);
        z.cousins(13);
        due("without a FEE", z.silenced(1, 0), 2);
        due("no FEE", z.silenced(1, 1), 0);
        law(z, "p=2");
        due("no gift is needed", z.silenced(1, 0), 0);
        law(z, "p=2?0;1");
        due("no gifts help", z.silenced(1, 1), NOT);
    }

    private static void leaveOut() {
        promise = 15;
        VotesUntouched x = council(4, 0, 0, 0);
        tell(x, 0, 0, 1, 0, 0);
        tell(x, 1, 0, 0, 1, 0);
        tell(x, 2, 0, 1, 0, 0);
        due("it may", x.leaveOut(0, 10), 0);
        due("one", x.leaveOut(0, 3), 1);
        due("two", x.leaveOut(0, 7), 5);
        due("not all", x.leaveOut(0, 1), NOT);
        due("not both", x.leaveOut(0, 5), NOT);
        due("only the bundle's", x.leaveOut(0, 12), 4);
        law(x, "n<3");
        due("of like ones the least bits", x.leaveOut(2, 14), 2);
        law(x, "n=1");
        due("of like ones the least bits", x.leaveOut(2, 13), 5);
        law(x, "0");
        due("never", x.leaveOut(2, 15), NOT);
        due("no such person", x.leaveOut(3, 1), BAD);
        due("no such person", x.leaveOut(-1, 1), BAD);
        due("no bundle", x.leaveOut(0, 0), BAD);
        due("no bundle", x.leaveOut(0, 16), BAD);
        due("no bundle", x.leaveOut(0, -1), BAD);
    }

    private static void alone() {
        promise = 16;
        VotesUntouched x = council(4, 0, 0);
        due("none is liked", x.alone(), 0);
        tell(x, 0, 1, 1, 0);
        tell(x, 1, 1, 1, -1);
        tell(x, 2, 1, -1, 2);
        tell(x, 3, 1, 5, 5);
        due("two of them", x.alone(), 9);
        x.mend(2, 0, 1);
        due("with one that is touched", x.alone(), 13);
        x.rule(1, 2);
        due("with a QUORUM", x.alone(), 9);
    }

    private static void parted() {
        promise = 17;
        VotesUntouched x = council(5, 0);
        due("none CARRIED", x.parted(-1), 0);
        for (int m = 0; m < 5; m++) {
            due("each by itself", x.parted(m), 1 << m);
        }
        tell(x, 0, 1, -1);
        tell(x, 1, 1, -1);
        tell(x, 2, 1, -1);
        tell(x, 3, 1, 2);
        tell(x, 4, 1, -1);
        due("by one", x.parted(-1), 2);
        due("the least bundle of the first", x.parted(0), 1);
        due("then that of the next", x.parted(1), 2);
        due("then that of the next", x.parted(2), 4);
        due("the rest", x.parted(3), 24);
        due("the rest", x.parted(4), 24);
        tell(x, 3, 1, 4);
        due("by three", x.parted(-1), 4);
        due("the first alone", x.parted(0), 1);
        due("all others", x.parted(2), 30);
        tell(x, 3, 1, 9);
        due("all", x.parted(-1), 5);
        due("in one", x.parted(4), 31);
        tell(x, 4, 1, 2);
        due("all", x.parted(-1), 5);
        due("the least of the first", x.parted(0), 11);
        due("the other", x.parted(4), 20);
        VotesUntouched z = council(4, 0);
        z.mend(0, 1, -3);
        z.mend(1, 1, 2);
        z.mend(2, 1, 2);
        z.mend(3, 1, 5);
        due("all", z.parted(-1), 4);
        due("the least of matter 0, not the least of all", z.parted(0), 7);
        due("the other", z.parted(3), 8);
        due("no such", x.parted(5), BAD);
        due("no such", x.parted(-2), BAD);
        due("nothing to part", council(0, 0).parted(-1), 0);
        due("nothing to part", council(0, 0).parted(0), BAD);
        VotesUntouched y = council(6, 0);
        for (int m = 0; m < 6; m++) {
            y.mend(m, 1, m % 2 == 0 ? 2 : -1);
        }
        due("six", y.parted(-1), 6);
        due("the least of the first", y.parted(0), 1);
        due("then of the second", y.parted(1), 62);
        due("then of the second", y.parted(3), 62);
        y.mend(4, 1, 3);
        due("six", y.parted(-1), 6);
        due("the least of the first", y.parted(0), 1);
        due("then of the second", y.parted(1), 6);
        due("the rest", y.parted(3), 56);
    }

    private static void say() {
        promise = 18;
        VotesUntouched x = council(3, 0, 0, 0);
        tell(x, 0, 0, 1, 0, 0);
        tell(x, 1, 0, 1, 1, 0);
        due("touched by two", x.say(0, 0), 1);
        due("touched by one", x.say(1, 0), 3);
        due("untouched", x.say(2, 0), 7);
        due("no power without likings", x.say(2, 1), 0);
        tell(x, 2, 1, 1, 1, -1);
        due("for it, one ahead", x.say(0, 1), 1);
        due("against it, alone", x.say(2, 1), 1);
        x.rule(1, 3);
        due("QUORUM needs it", x.say(2, 1), 1);
        x.rule(1, 2);
        tell(x, 2, 1, 1, 0, 0);
        due("QUORUM does not need it", x.say(2, 1), 0);
        tell(x, 0, 1, 0, 1, 0);
        due("with two: QUORUM needs it on two", x.say(2, 1), 2);
        due("no such person", x.say(3, 0), BAD);
        due("no such person", x.say(-1, 1), BAD);
        due("no such thing", x.say(0, 2), BAD);
        due("no such thing", x.say(0, -1), BAD);
        due("no matters", council(0, 5).say(0, 0), 0);
        VotesUntouched y = council(1, 0, 0, 0);
        tell(y, 0, 1, 1, 1, -1);
        due("without it it is as much against", y.say(0, 1), 1);
        due("CARRIED with and without", y.say(2, 1), 0);
        tell(y, 0, 1, 1, 0, -1);
        due("without it it were CARRIED", y.say(2, 1), 1);
        y.mend(20, 0, 1);
        due("who may not vote has none", y.say(2, 1), 0);
    }

    private static void hermit() {
        promise = 19;
        due("nobody", council(2).hermit(), STATE);
        due("no matters", council(0, 0, 0).hermit(), 0);
        VotesUntouched x = council(2, 0, 0, 0);
        due("of like ones the least", x.hermit(), 0);
        x.mend(0, 0, 1);
        due("the next", x.hermit(), 1);
        x.mend(10, 0, 1);
        due("the last", x.hermit(), 2);
        x.mend(20, 0, 1);
        due("all alike", x.hermit(), 0);
        x.mend(1, 0, 1);
        due("the first has fewer", x.hermit(), 1);
    }

    private static void chance() {
        promise = 20;
        VotesUntouched x = council(3, 0, 0);
        tell(x, 0, 1, -1, 2);
        tell(x, 1, 1, 0, 1);
        tell(x, 0, 0, 1, 0);
        x.mend(0, 2, 8);
        due("two of three", x.chance(1, 0), 2);
        due("two of three", x.chance(1, 1), 3);
        due("surely", x.chance(2, 0), 1);
        due("surely", x.chance(2, 1), 1);
        due("never", x.chance(4, 0), 0);
        due("never: by 1", x.chance(4, 1), 1);
        x.mend(0, 2, 0);
        due("never touched: not CARRIED", x.chance(1, 0), 0);
        x.mend(0, 2, 12);
        due("always touched: CARRIED", x.chance(1, 0), 1);
        x.mend(0, 2, 5);
        tell(x, 1, 0, 0, 1);
        x.mend(1, 2, 7);
        // CARRIED only if matter 0 touches and matter 1 does not: 5 * 5 of 144.
        due("both", x.chance(3, 0), 25);
        due("both", x.chance(3, 1), 144);
        due("another matter besides", x.chance(7, 0), 25);
        due("another matter besides", x.chance(7, 1), 144);
        VotesUntouched y = council(6, 0);
        for (int m = 0; m < 6; m++) {
            y.mend(m, 0, 1);
            y.mend(m, 1, 1);
            y.mend(m, 2, 1);
        }
        due("six rumours", y.chance(63, 0), 1771561);
        due("six rumours", y.chance(63, 1), 2985984);
        law(y, "t=2&n=6&l=6");
        due("n and l are of all, t of those that touch", y.chance(63, 0), 73205);
        due("n and l are of all, t of those that touch", y.chance(63, 1), 995328);
        law(y, "t=6");
        due("one of all", y.chance(63, 0), 1);
        due("one of all", y.chance(63, 1), 2985984);
        due("no bundle", x.chance(0, 0), BAD);
        due("no bundle", x.chance(8, 0), BAD);
        due("no part", x.chance(1, 2), BAD);
        due("no part", x.chance(1, -1), BAD);
    }

    private static void lies() {
        promise = 21;
        VotesUntouched x = council(2, 0, 0, 0, 0);
        due("nobody leans", x.lies(1), NOT);
        tell(x, 0, 1, 1, -1, -1, 0);
        x.mend(0, 0, 1);
        due("two against, one silenced: two lies", x.lies(1), 7);
        x.mend(0, 0, 0);
        due("one ahead against: two lies", x.lies(1), 6);
        tell(x, 0, 1, 0, 1, -1, 0);
        due("one lie", x.lies(1), 4);
        tell(x, 0, 1, 0, 1, 0, 0);
        due("CARRIED: one lie against it", x.lies(1), 2);
        x.rule(1, 4);
        due("below QUORUM: any one's lie, the least", x.lies(1), 1);
        x.rule(1, 5);
        due("QUORUM above all", x.lies(1), NOT);
        x.rule(1, 0);
        due("QUORUM 0", x.lies(1), 2);
        due("no bundle", x.lies(0), BAD);
        due("no bundle", x.lies(4), BAD);
        due("nobody", council(1).lies(1), NOT);
        VotesUntouched one = council(1, 0);
        one.mend(0, 1, 1);
        due("all lie", one.lies(1), 1);
        VotesUntouched y = council(1, 0, 0, 0);
        tell(y, 0, 0, 1, 1, 1);
        tell(y, 0, 1, -1, 1, 1);
        due("one who may not is said to", y.lies(1), 2);
        y.rule(1, 2);
        due("two who may not are said to", y.lies(1), 6);
    }

    private static void step() {
        promise = 22;
        VotesUntouched x = council(2, 0, 0, 0, 0, 0, 0);
        for (int i = 0; i < 4; i++) {
            x.cousins(11 * i + 1);
        }
        x.mend(0, 0, 1);
        // Free with K 0: 1 to 5, with K 1: 2 to 5, and so on; 5 is nobody's cousin.
        due("fewer than 6", x.step(1, 6), 0);
        due("fewer than 5", x.step(1, 5), 1);
        due("fewer than 4", x.step(1, 4), 2);
        due("fewer than 3", x.step(1, 3), 3);
        due("fewer than 2", x.step(1, 2), 4);
        due("fewer than 1", x.step(1, 1), NOT);
        due("more than there are", x.step(1, 10), 0);
        due("of an untouching matter", x.step(2, 6), NOT);
        due("of an untouching matter", x.step(2, 7), 0);
        x.rule(0, 4);
        law(x, "0");
        due("without the law", x.step(1, 3), 3);
        due("n 0", x.step(1, 0), BAD);
        due("n 11", x.step(1, 11), BAD);
        due("no bundle", x.step(0, 1), BAD);
        due("no bundle", x.step(4, 1), BAD);
        due("K is as it was", x.rule(0, 0), 4);
    }

    private static void lots() {
        promise = 23;
        VotesUntouched x = council(2, 0, 0, 0);
        tell(x, 0, 1, 1, 0, -1);
        // z from 0, unsigned: 12345, 3554416254, 2802067423, 3596950572; >>> 8: 48, 13884438, 10945575, 14050588.
        due("the first of one", x.lots(0, 101, 1), 1);
        due("the first of each two times", x.lots(0, 201, 1), 2);
        due("three times", x.lots(0, 301, 1), 3);
        due("four times: the last is 1", x.lots(0, 401, 1), 3);
        tell(x, 0, 1, 0, 1, 0);
        due("four times: the last is 1", x.lots(0, 401, 1), 1);
        tell(x, 0, 1, 1, 0, -1);
        // Of two each: 48 % 3 is 0, 13884438 % 2 is 0: 0 and 1 are drawn.
        due("two drawn", x.lots(0, 102, 1), 1);
        due("all drawn: as many for as against", x.lots(77, 3003, 1), 0);
        tell(x, 0, 0, 9, 9, 9);
        x.rule(1, 10);
        law(x, "0");
        due("touched or not, whatever QUORUM and THE LAW", x.lots(0, 102, 1), 1);
        tell(x, 0, 1, 1, 1, 0);
        due("all for it", x.lots(LEAST, 3002, 1), 30);
        due("nobody leans", x.lots(MOST, 3003, 2), 0);
        int[] bad = {0, 1, 3, 100, 104, 110, 111, 3101, 3100, -1, -101, LEAST, MOST};
        for (int nm : bad) {
            due("lots(5, " + nm + ", 1)", x.lots(5, nm, 1), BAD);
        }
        due("no bundle", x.lots(5, 101, 0), BAD);
        due("no bundle", x.lots(5, 101, 4), BAD);
        due("nobody", council(1).lots(5, 101, 1), BAD);
        VotesUntouched all = council(1, 0, 0, 0, 0, 0, 0, 0, 0, 0, 0);
        all.mend(90, 1, 1);
        due("all ten", all.lots(3, 3010, 1), 30);
    }

    // ---- years, votes in deed

    private static void judge() {
        promise = 24;
        VotesUntouched x = council(2, 0, 0, 0);
        x.mend(0, 0, 1);
        x.cousins(1);
        due("nothing there", x.judge(0), -11);
        due("no shelf", x.judge(6), BAD);
        due("no shelf", x.judge(-1), BAD);
        for (int sort = 0; sort <= 4; sort++) {
            if (sort != 1) {
                x.row(1, sort, 2);
                due("a row of sort " + sort, x.judge(1), -12);
            }
        }
        x.body(0);
        x.keep(1, 0);
        due("a voter", x.judge(1), -12);
        row(x, 0, 1);
        due("no twos", x.judge(0), NOT);
        row(x, 0, 1, 1, 3, 2, 0, 3, 3);
        due("all right", x.judge(0), NOT);
        row(x, 0, 1, 1, 3, 2, 0, 3, 1);
        due("too few silent", x.judge(0), 2);
        row(x, 0, 1, 1, 3, 2, 4, 3, 1);
        due("too many silent", x.judge(0), 1);
        row(x, 0, 1, 1, 11, 2, 0);
        due("one who is not there", x.judge(0), 0);
        row(x, 0, 1, 1, 3, 0, 7);
        due("no bundle", x.judge(0), 1);
        row(x, 0, 1, 1, 3, 4, 0);
        due("no bundle", x.judge(0), 1);
        row(x, 0, 1, 1, 3, -1, 0);
        due("no bundle", x.judge(0), 1);
        row(x, 0, 1, 1, 3, 2, 0, 1);
        due("a two's end that lacks", x.judge(0), 2);
        row(x, 0, 1, 2);
        due("a two's end that lacks", x.judge(0), 0);
        row(x, 0, 1, 1, -5);
        due("below 0", x.judge(0), 0);
        law(x, "p=1");
        row(x, 0, 1, 1, 5, 2, 5);
        due("by the law", x.judge(0), NOT);
    }

    private static void must() {
        promise = 25;
        VotesUntouched x = council(3, 0, 0, 0);
        due("nothing there", x.must(0, 0), -11);
        due("no shelf", x.must(6, 0), BAD);
        due("no shelf", x.must(-1, 0), BAD);
        x.row(0, 0, 2);
        due("no row of shorts", x.must(0, 0), -12);
        x.body(0);
        x.keep(0, 0);
        due("a voter", x.must(0, 0), -12);
        int[] bad = {3, 30, -1, -10, LEAST, MOST, 100};
        for (int pm : bad) {
            due("must(0, " + pm + ")", x.must(0, pm), BAD);
        }
        row(x, 0, 1);
        due("no year", x.must(0, 0), 0);
        row(x, 0, 1, 1, 1);
        due("that matter alone", x.must(0, 0), 1);
        due("another person", x.must(0, 10), 0);
        due("another matter", x.must(0, 1), 0);
        row(x, 0, 1, 3, 2);
        due("two matters", x.must(0, 10), 0);
        row(x, 0, 1, 3, 2, 2, 0);
        due("voted on the rest", x.must(0, 10), 1);
        due("voted on the rest: not that", x.must(0, 11), 0);
        row(x, 0, 1, 2, 0, 3, 2);
        due("the other way round", x.must(0, 10), 1);
        row(x, 0, 1, 3, 2, 2, 2);
        due("silent on the rest too", x.must(0, 10), 0);
        due("silent on that alone", x.must(0, 11), 1);
        row(x, 0, 1, 3, 2, 6, 0);
        due("voted on more than the rest", x.must(0, 10), 1);
        row(x, 0, 1, 7, 2, 2, 0, 4, 0);
        due("voted on the rest by parts", x.must(0, 10), 0);
        row(x, 0, 1, 3, 2, 7, 0);
        due("voted on one that has it", x.must(0, 10), 0);
        row(x, 0, 1, 3, 2, 10, 0);
        due("voted on no bundle", x.must(0, 10), 0);
        row(x, 0, 1, 9, 2, 1, 0);
        due("silent on no bundle", x.must(0, 10), 0);
        row(x, 0, 1, 3, 2, 2);
        due("half a two", x.must(0, 10), 0);
        row(x, 0, 1, 2, 0, 3);
        due("half a two", x.must(0, 10), 0);
        row(x, 0, 1, 0, 2, -1, 2, 3, 2, 2, 1);
        due("among twos that are no bundle", x.must(0, 10), 1);
        row(x, 0, 1, 4, -1);
        due("all bits", x.must(0, 22), 1);
        row(x, 0, 1, 3, 0, 2, 2);
        due("voted with it, silent without", x.must(0, 10), 0);
    }

    private static void decide() {
        promise = 26;
        VotesUntouched x = council(4, 3, 10, 20);
        tell(x, 0, 1, 1, 0, 0);
        tell(x, 1, 1, 1, -1, 0);
        tell(x, 2, 1, -1, 0, 0);
        due("not CARRIED", x.decide(2, 0), 0);
        due("nothing DECIDED", x.led(3), 0);
        due("CARRIED", x.decide(1, 0), 1);
        due("again", x.decide(1, 0), STATE);
        due("with another", x.decide(3, 0), STATE);
        due("not CARRIED", x.decide(2, 0), 0);
        due("again with a gift", x.decide(2, 2), 1);
        due("not CARRIED", x.decide(4, 0), 0);
        due("put again", x.decide(12, 5), 0);
        due("no bundle", x.decide(0, 0), BAD);
        due("no bundle", x.decide(16, 0), BAD);
        due("no gifts", x.decide(1, 8), BAD);
        due("no gifts", x.decide(4, -1), BAD);
        due("DECIDED", x.led(3), 3);
        due("FEES", x.led(4), 33);
        due("the likings do not matter to it", x.vote(1, 0, 3), 1);
    }

    private static void led() {
        promise = 27;
        VotesUntouched x = council(3, 3, 10);
        x.mend(0, 1, 1);
        due("none was put", x.led(0), STATE);
        due("none was put", x.led(1), STATE);
        due("none was put", x.led(2), STATE);
        due("nothing DECIDED", x.led(3), 0);
        due("no FEES", x.led(4), 0);
        due("no such", x.led(5), BAD);
        due("no such", x.led(-1), BAD);
        x.decide(0, 0);
        due("a refused one is none", x.led(0), STATE);
        x.decide(1, 2);
        due("the bundle", x.led(0), 1);
        due("its gifts", x.led(1), 2);
        due("CARRIED", x.led(2), 1);
        due("DECIDED", x.led(3), 1);
        due("FEES", x.led(4), 10);
        x.decide(6, 3);
        due("the bundle", x.led(0), 6);
        due("its gifts", x.led(1), 3);
        due("not CARRIED", x.led(2), 0);
        due("DECIDED", x.led(3), 1);
        due("FEES so far", x.led(4), 23);
        x.decide(1, 0);
        due("a refused one is none", x.led(0), 6);
    }

    private static void image() {
        promise = 28;
        VotesUntouched x = council(3, 3, 10);
        tell(x, 0, 1, 1, 1);
        tell(x, 1, 1, 1, 1);
        due("nothing DECIDED", x.image(), 0);
        x.decide(1, 1);
        due("one DECIDED", x.image(), 1);
        x.decide(2, 2);
        x.decide(4, 0);
        due("the image is that", x.back(), 1);
        due("the later image", x.led(4), 3);
        promise = 29;
        VotesUntouched y = council(3, 3, 10);
        tell(y, 0, 1, 1, 1);
        tell(y, 1, 1, 1, 1);
        due("none kept", y.back(), STATE);
        y.image();
        y.decide(1, 2);
        due("back to nothing", y.back(), 0);
        due("none was put", y.led(0), STATE);
        due("no FEES", y.led(4), 0);
        due("it may be put again", y.decide(1, 1), 1);
        y.image();
        y.decide(6, 2);
        y.mend(0, 0, 4);
        due("back to one", y.back(), 1);
        due("the bundle", y.led(0), 1);
        due("the gifts", y.led(1), 1);
        due("CARRIED", y.led(2), 1);
        due("FEES", y.led(4), 3);
        due("touches stay", y.of(0, 0), 4);
        y.decide(2, 1);
        due("back once more", y.back(), 1);
    }

    private static void undo() {
        promise = 30;
        VotesUntouched x = council(2, 0, 0);
        x.mend(0, 0, 3);
        x.mend(0, 0, 5);
        x.mend(11, 1, -2);
        x.mend(1, 2, 7);
        x.mend(1, 2, 7);
        due("the same again is none", x.count(4), 4);
        due("undo()", x.undo(), 3);
        due("RUMOUR", x.of(1, 20), 12);
        due("undo()", x.undo(), 2);
        due("LIKED", x.of(11, 1), 0);
        due("undo()", x.undo(), 1);
        due("TOUCH", x.of(0, 0), 3);
        due("undo()", x.undo(), 0);
        due("TOUCH", x.of(0, 0), 0);
        due("none", x.undo(), STATE);
        promise = 31;
        due("redo()", x.redo(), 3);
        due("TOUCH", x.of(0, 0), 3);
        due("count(4)", x.count(4), 1);
        due("redo()", x.redo(), 2);
        due("TOUCH", x.of(0, 0), 5);
        due("the same is none", x.mend(0, 0, 5), 5);
        due("redo()", x.redo(), 1);
        due("LIKED", x.of(11, 1), -2);
        due("another came behind", x.mend(10, 0, 1), 0);
        due("none", x.redo(), STATE);
        due("count(4)", x.count(4), 4);
        due("RUMOUR", x.of(1, 20), 12);
        due("undo()", x.undo(), 3);
        due("redo()", x.redo(), 0);
        due("none", x.redo(), STATE);
        promise = 30;
        VotesUntouched y = council(1, 0);
        for (int i = 1; i <= 43; i++) {
            y.mend(0, 0, i);
            due("count(4)", y.count(4), Math.min(i, 40));
        }
        for (int i = 42; i >= 3; i--) {
            due("undo()", y.undo(), i - 3);
            due("TOUCH", y.of(0, 0), i);
        }
        due("40 at most are kept", y.undo(), STATE);
        VotesUntouched z = council(2, 0, 0);
        for (int i = 0; i < 41; i++) {
            z.mend(i == 40 ? 11 : i % 2 == 0 ? 0 : 10, i % 3 == 0 ? 1 : 0, 1 + i % 9);
        }
        due("the latest", z.of(11, 0), 5);
        z.undo();
        due("the latest is undone", z.of(11, 0), 0);
        due("the one ahead of it", z.of(10, 1), 4);
        z.undo();
        due("the one ahead of it is undone", z.of(10, 1), 7);
        int changes = z.count(4);
        for (int i = 0; i < changes; i++) {
            z.undo();
        }
        due("the oldest stays", z.of(0, 1), 1);
        due("all others are undone", z.of(0, 0), 0);
        due("all others are undone", z.of(10, 0), 0);
        due("all others are undone", z.of(10, 1), 0);
        due("all others are undone", z.of(11, 0), 0);
        promise = 31;
        for (int i = 4; i <= 43; i++) {
            due("redo()", y.redo(), 43 - i);
            due("TOUCH", y.of(0, 0), i);
        }
        due("no more", y.redo(), STATE);
    }

    // ---- acts, shelves

    private static void body() {
        promise = 32;
        VotesUntouched x = new VotesUntouched();
        due("no kind", x.body(-1), BAD);
        due("no kind", x.body(8), BAD);
        for (int i = 0; i < 50; i++) {
            due("body", x.body(i % 8), i);
        }
        due("the 51st", x.body(0), FULL);
        due("wrong and full", x.body(8), BAD);
        due("count(5)", x.count(5), 50);
    }

    private static void act() {
        promise = 33;
        VotesUntouched x = new VotesUntouched();
        for (int kind = 0; kind < 8; kind++) {
            x.body(kind);
        }
        // n is the kind here; what each act answers with x 10, and which bodies ran.
        int[][] answers = {
            {10, 20, 10, 20 - 1},
            {14, 28, 11, 28 - 0},
            {12, -24, 8, -24 - 3},
            {13, -28, 27, -28 - 6},
            {17, 34, 14 - 9, 34 - (5 - 9)},
            {15, -32, 45, (-32 - 12) ^ 5},
            {32, 64, 12, 64 - 7},
            {20, 40 + (5 - 12), 13 - 12, 33 - (6 - 12) - 1},
        };
        String[][] ran = {
            {"1", "10 1", "11", "2 10 1 11"},
            {"20 1", "10 20 1", "11", "2 10 20 1 11"},
            {"1", "30 10 1", "11", "2 30 10 1 11"},
            {"1", "41 30 10 1", "40 11", "2 41 30 10 1 40 11"},
            {"20 1", "10 20 1", "50 11 20 1", "2 10 20 1 50 11 20 1"},
            {"1", "41 30 10 1", "40 11", "60 2 41 30 10 1 40 11"},
            {"70 1", "10 70 1", "11", "2 10 70 1 11"},
            {"20 1", "80 10 20 1 50 11 20 1", "50 11 20 1", "81 2 80 10 20 1 50 11 20 1 50 11 20 1"},
        };
        for (int kind = 0; kind < 8; kind++) {
            for (int act = 0; act < 4; act++) {
                promise = 33;
                due("act(" + kind + ", " + act + ", 10)", x.act(kind, act, 10), answers[kind][act]);
                dueTrace(x, ran[kind][act].split(" "));
            }
        }
        promise = 33;
        due("no voter", x.act(8, 0, 1), 0);
        due("no trace", x.count(6), 0);
        due("no trace", x.trace(0), BAD);
        x.act(0, 0, 1);
        due("no voter", x.act(-1, 0, 1), 0);
        due("no trace", x.count(6), 0);
        x.act(0, 0, 1);
        due("no act", x.act(0, 4, 1), 0);
        due("no trace", x.count(6), 0);
        x.act(0, 0, 1);
        due("no act", x.act(0, -1, 1), 0);
        due("no trace", x.trace(0), BAD);
        due("it wraps", x.act(1, 0, MOST), LEAST + 3);
        due("it wraps", x.act(0, 1, 1 << 30), LEAST);
        due("it wraps", x.act(2, 1, 1 << 30), -((1 << 30) + 2 << 1));
        x.body(0);
        due("n is its number", x.act(8, 0, 100), 108);
    }

    private static void dueTrace(VotesUntouched x, String[] ran) {
        promise = 34;
        due("trace(-1)", x.trace(-1), BAD);
        for (int i = 0; i < ran.length; i++) {
            due("trace(" + i + ")", x.trace(i), Integer.parseInt(ran[i]));
        }
        due("trace(" + ran.length + ")", x.trace(ran.length), BAD);
        promise = 41;
        due("count(6)", x.count(6), ran.length);
    }

    private static void keep() {
        promise = 35;
        VotesUntouched x = new VotesUntouched();
        x.body(3);
        due("keep(0, 0)", x.keep(0, 0), 1);
        due("it is there", x.taken(0, 3), 3);
        due("keep(5, 0)", x.keep(5, 0), 1);
        due("nothing", x.keep(0, -1), 1);
        due("nothing is there", x.taken(0, 3), -11);
        due("no body", x.keep(0, 1), BAD);
        due("no body", x.keep(0, -2), BAD);
        due("no shelf", x.keep(6, 0), BAD);
        due("no shelf", x.keep(-1, -1), BAD);
        x.row(0, 2, 3);
        due("a row gives way", x.keep(0, 0), 1);
        due("a row gives way", x.put(0, 0, 1), -12);
        x.row(0, 2, 3);
        x.keep(0, -1);
        due("a row gives way", x.put(0, 0, 1), -11);
    }

    private static void rows() {
        promise = 36;
        VotesUntouched x = new VotesUntouched();
        for (int sort = 0; sort <= 4; sort++) {
            due("row", x.row(sort, sort, 60), 1);
            due("its last element", x.element(sort, 59), 0);
            due("behind it", x.element(sort, 60), Long.MIN_VALUE);
        }
        due("of none", x.row(5, 0, 0), 1);
        due("of none", x.put(5, 0, 1), -13);
        due("no sort", x.row(0, 5, 1), BAD);
        due("no sort", x.row(0, -1, 1), BAD);
        due("n 61", x.row(0, 0, 61), BAD);
        due("no shelf", x.row(6, 0, 1), BAD);
        due("no shelf", x.row(-1, 0, 1), BAD);
        due("below 0", x.row(0, 0, -1), -14);
        due("far below 0", x.row(0, 0, LEAST), -14);
        due("no sort, below 0", x.row(0, 5, -1), BAD);
        due("no shelf, below 0", x.row(6, 0, -1), BAD);
        due("what is refused changes nothing", x.put(0, 59, 1), 1);
        x.put(0, 0, 1);
        x.put(1, 0, 7);
        x.row(0, 0, 60);
        due("anew", x.element(0, 59), 0);
        due("anew", x.element(0, 0), 0);
        due("the next shelf is as it was", x.element(1, 0), 7);

        promise = 37;
        x.body(0);
        x.keep(5, 0);
        due("no shelf", x.put(6, 0, 1), BAD);
        due("no shelf", x.put(-1, 0, 1), BAD);
        due("a voter", x.put(5, 0, 1), -12);
        x.keep(5, -1);
        due("nothing", x.put(5, 0, 1), -11);
        due("no place", x.put(0, 60, 1), -13);
        due("no place", x.put(0, -1, 1), -13);
        long[] values = {1, -1, 127, 128, 255, 256, 32767, 32768, 65536, 1L << 31, 1L << 32, Long.MIN_VALUE, Long.MAX_VALUE};
        long[][] kept = {
            {1, -1, 127, -128, -1, 0, -1, 0, 0, 0, 0, 0, -1},
            {1, -1, 127, 128, 255, 256, 32767, -32768, 0, 0, 0, 0, -1},
            {1, -1, 127, 128, 255, 256, 32767, 32768, 65536, -(1L << 31), 0, 0, -1},
            values,
            {1, 1, 1, 1, 1, 1, 1, 1, 1, 1, 1, 1, 1},
        };
        for (int sort = 0; sort <= 4; sort++) {
            for (int i = 0; i < values.length; i++) {
                promise = 37;
                due("put(" + sort + ", " + i + ", " + values[i] + ")", x.put(sort, i, values[i]), 1);
                promise = 38;
                due("element(" + sort + ", " + i + ")", x.element(sort, i), kept[sort][i]);
            }
        }
        x.put(4, 0, 0);
        due("a boolean that is 0", x.element(4, 0), 0);

        promise = 38;
        due("no shelf", x.element(6, 0), Long.MIN_VALUE);
        due("no shelf", x.element(-1, 0), Long.MIN_VALUE);
        due("nothing", x.element(5, 0), Long.MIN_VALUE);
        x.keep(5, 0);
        due("a voter", x.element(5, 0), Long.MIN_VALUE);
        due("no place", x.element(0, -1), Long.MIN_VALUE);
        due("no place", x.element(0, MOST), Long.MIN_VALUE);
    }

    private static void shift() {
        promise = 39;
        VotesUntouched x = new VotesUntouched();
        row(x, 0, 2, 1, 2, 3, 4, 5);
        row(x, 1, 2, 9, 9, 9);
        due("to another", x.shift(0, 1, 1, 0, 2), 2);
        dueElements("to another", x, 1, "2 3 9");
        dueElements("to another", x, 0, "1 2 3 4 5");
        due("onward within", x.shift(0, 0, 0, 1, 4), 4);
        dueElements("onward within", x, 0, "1 1 2 3 4");
        due("backward within", x.shift(0, 2, 0, 0, 3), 3);
        dueElements("backward within", x, 0, "2 3 4 3 4");
        due("none", x.shift(0, 5, 1, 3, 0), 0);
        due("a whole row", x.shift(1, 0, 1, 0, 3), 3);
        int[][] places = {
            {-1, 0, 1}, {0, -1, 1}, {5, 0, 1}, {0, 3, 1}, {0, 0, 4}, {3, 0, 3}, {0, 0, -1}, {6, 0, 0}, {0, 4, 0},
            {MOST, 0, 1}, {0, MOST, 1}, {0, 0, MOST}, {0, 0, LEAST}, {MOST, MOST, MOST}, {1, 1, LEAST},
        };
        for (int[] p : places) {
            due("shift(0, " + p[0] + ", 1, " + p[1] + ", " + p[2] + ")", x.shift(0, p[0], 1, p[1], p[2]), -13);
        }
        dueElements("refused", x, 1, "2 3 9");
        due("nothing here", x.shift(2, 0, 1, 0, 1), -11);
        due("nothing there", x.shift(0, 0, 2, 0, 1), -11);
        due("nothing there, and no place", x.shift(0, 9, 2, 0, 1), -11);
        x.row(3, 1, 5);
        due("unlike sorts", x.shift(0, 0, 3, 0, 1), -12);
        due("unlike sorts, and no place", x.shift(0, 9, 3, 0, 1), -12);
        x.body(0);
        x.keep(4, 0);
        due("a voter", x.shift(4, 0, 0, 0, 1), -12);
        due("a voter", x.shift(0, 0, 4, 0, 1), -12);
        due("two voters", x.shift(4, 0, 4, 0, 0), -12);
        due("a voter and nothing", x.shift(4, 0, 2, 0, 1), -11);
        due("no shelf", x.shift(-1, 0, 2, 0, 1), BAD);
        due("no shelf", x.shift(2, 0, 6, 0, 1), BAD);
    }

    private static void taken() {
        promise = 40;
        VotesUntouched x = new VotesUntouched();
        // By kind: the kinds that it is, or is under.
        int[][] above = {{0}, {1, 0}, {2, 0}, {3, 2, 0}, {4, 1, 0}, {5, 3, 2, 0}, {6, 0}, {7, 4, 1, 0}};
        x.body(7);
        for (int kind = 0; kind < 8; kind++) {
            x.keep(1, x.body(kind));
            for (int k = 0; k < 8; k++) {
                boolean under = false;
                for (int a : above[kind]) {
                    under |= a == k;
                }
                due("kind " + kind + " taken for " + k, x.taken(1, k), under ? kind : -12);
            }
        }
        due("no kind", x.taken(1, 8), BAD);
        due("no kind", x.taken(1, -1), BAD);
        due("no shelf", x.taken(6, 0), BAD);
        due("no shelf", x.taken(-1, 0), BAD);
        due("nothing", x.taken(0, 0), -11);
        due("nothing, no kind", x.taken(0, 8), BAD);
        x.row(0, 0, 3);
        due("a row", x.taken(0, 0), -12);
    }

    private static void count() {
        promise = 41;
        VotesUntouched x = council(2, 1, 2, 3);
        x.cousins(1);
        x.feed('t');
        x.feed('=');
        x.feed('1');
        x.feed(0);
        x.mend(0, 0, 1);
        x.mend(0, 1, 1);
        x.mend(0, 2, 1);
        x.mend(1, 2, 1);
        x.mend(1, 2, 2);
        x.undo();
        for (int i = 0; i < 8; i++) {
            x.body(7);
        }
        x.act(3, 3, 5);
        int[] want = {3, 2, 1, 4, 4, 8, 14};
        for (int what = 0; what < want.length; what++) {
            due("count(" + what + ")", x.count(what), want[what]);
        }
        due("no such", x.count(7), BAD);
        due("no such", x.count(-1), BAD);
        due("no such", x.count(LEAST), BAD);
    }

    public static void main(String[] args) {
        newObject();
        person();
        people();
        cousins();
        matter();
        mend();
        rule();
        of();
        feed();
        faults();
        worths();
        may();
        vote();
        together();
        silenced();
        likeGifts();
        leaveOut();
        alone();
        parted();
        say();
        hermit();
        chance();
        lies();
        step();
        lots();
        judge();
        must();
        decide();
        led();
        image();
        undo();
        body();
        act();
        keep();
        rows();
        shift();
        taken();
        count();
        System.out.println(checks + " checks, " + wrong + " wrong");
        if (wrong != 0) {
            System.exit(1);
        }
    }
}
