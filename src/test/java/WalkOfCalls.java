/** Promises 1 to 10: people, matters, the law. */
final class WalkOfCalls {
    private static final int BAD = Walk.BAD, FULL = Walk.FULL, STATE = Walk.STATE, VOID = Walk.VOID;
    private static final int LEAST = Walk.LEAST, MOST = Walk.MOST;

    private WalkOfCalls() {
    }

    private static void due(String call, long got, long want) {
        Walk.due(call, got, want);
    }

    static void test() {
        newObject();
        person();
        people();
        cousins();
        matter();
        mend();
        rule();
        of();
        feed();
        law();
    }

    private static void newObject() {
        Walk.heading("## Promise 1: A new object `VotesUntouched()`:");
        Walk.says("Nobody, nothing.");
        VotesUntouched x = new VotesUntouched();
        for (int what = 0; what <= 6; what++) {
            due("count(" + what + ")", x.count(what), 0);
        }
        for (int s = 0; s <= 5; s++) {
            due("taken(" + s + ", 0)", x.taken(s, 0), Walk.NOTHING);
        }
        due("hermit()", x.hermit(), STATE);
        due("alone()", x.alone(), 0);
        due("vote(1, 0, 0)", x.vote(1, 0, 0), BAD);
        due("led(0)", x.led(0), STATE);
        due("back()", x.back(), STATE);
        due("undo()", x.undo(), STATE);
        due("redo()", x.redo(), STATE);
        due("trace(0)", x.trace(0), BAD);
        due("law()", x.law(), -100);
    }

    private static void person() {
        Walk.heading("## Promise 2: person `int person(int fee)`:");
        Walk.says("A PERSON: the number. BAD, FULL: 10.");
        VotesUntouched x = new VotesUntouched();
        for (int fee : new int[] {-1, 100, LEAST, MOST}) {
            due("person(" + fee + ")", x.person(fee), BAD);
        }
        for (int p = 0; p < 10; p++) {
            due("person(" + 11 * p + ")", x.person(11 * p), p);
        }
        due("the eleventh", x.person(0), FULL);
        due("the eleventh, BAD", x.person(-1), BAD);
        due("the last's FEE", x.of(9, 10), 99);
    }

    private static void people() {
        Walk.heading("## Promise 3: people `int people(int shelf, int i, int n)`:");
        Walk.says("PEOPLE FROM A ROW on a SHELF, from place i on, n (1 .. 10) of them: how many came.");
        VotesUntouched x = new VotesUntouched();
        Walk.row(x, 5, 0, 10, 20, 30, 40, 50, 60, 70, 80, 90, 99, 7);
        due("people(5, 2, 1)", x.people(5, 2, 1), 1);
        due("people(5, 9, 2)", x.people(5, 9, 2), 2);
        due("FEES", x.of(0, 10) * 10000 + x.of(1, 10) * 100 + x.of(2, 10), 309907);
        due("people(5, 1, 10)", x.people(5, 1, 10), 7);
        VotesUntouched y = new VotesUntouched();
        Walk.row(y, 0, 0, 1, 2, 3, 4, 5, 6, 7, 8, 9, 10, 11);
        due("people(0, 0, 10)", y.people(0, 0, 10), 10);
        due("the last's FEE", y.of(9, 10), 10);

        Walk.says("BAD, -12 (no ROW of bytes; a SHELF that holds nothing is missing).");
        VotesUntouched z = new VotesUntouched();
        int[][] bad = {{-1, 0, 1}, {6, 0, 1}, {0, 0, 0}, {0, 0, -1}, {0, 0, 11}, {LEAST, 0, 1}, {0, 0, MOST}};
        for (int[] b : bad) {
            due("people(" + b[0] + ", " + b[1] + ", " + b[2] + ")", z.people(b[0], b[1], b[2]), BAD);
        }
        z.body(0);
        z.keep(1, 0);
        due("a VOTER", z.people(1, 0, 1), Walk.KIND);
        for (int sort = 1; sort <= 4; sort++) {
            z.row(2, sort, 4);
            due("a ROW of sort " + sort, z.people(2, 0, 1), Walk.KIND);
            due("BAD ahead of it", z.people(2, 0, 11), BAD);
        }
        due("a SHELF that holds nothing", z.people(0, 0, 1), 0);
        z.row(3, 0, 0);
        due("a ROW of none", z.people(3, 0, 1), 0);
        due("nobody came", z.count(0), 0);
    }

    private static void cousins() {
        Walk.heading("## Promise 4: cousins `int cousins(int ab)`:");
        Walk.says("COUSINS (ab: 10 times the one and the other): how many pairs. BAD (one and the same, or pairs already), FULL: 12.");
        VotesUntouched x = Walk.council(7, 0);
        due("cousins(42)", x.cousins(42), 1);
        due("4 and 2", x.of(42, 30), 1);
        due("2 and 4", x.of(24, 30), 1);
        for (int ab : new int[] {42, 24, 44, 0, 70, 7, 77, -1, -42, 100, LEAST, MOST}) {
            due("cousins(" + ab + ")", x.cousins(ab), BAD);
        }
        int[] pairs = {1, 12, 20, 30, 31, 32, 40, 41, 43, 50, 51};
        for (int i = 0; i < pairs.length; i++) {
            due("cousins(" + pairs[i] + ")", x.cousins(pairs[i]), i + 2);
        }
        due("the thirteenth", x.cousins(56), FULL);
        due("one and the same, when FULL", x.cousins(55), BAD);
        due("pairs already, when FULL", x.cousins(15), BAD);
        due("count(2)", x.count(2), 12);
    }

    private static void matter() {
        Walk.heading("## Promise 5: matter `int matter()`:");
        Walk.says("A MATTER that touches nobody: its number. FULL: 6.");
        VotesUntouched x = Walk.council(3, 0);
        for (int m = 0; m < 6; m++) {
            due("matter()", x.matter(), m);
            due("it touches nobody", x.vote(1 << m, 0, 0), 7);
        }
        due("the seventh", x.matter(), FULL);
        due("count(1)", x.count(1), 6);
    }

    private static void mend() {
        Walk.heading("## Promise 6: mend `int mend(int pm, int what, int v)`:");
        Walk.says("TOUCH (what 0), LIKED (1) of pm becomes v; RUMOUR (2) of a MATTER (its number): what it was.");
        VotesUntouched x = Walk.council(3, 2);
        int[][] mends = {{21, 0, 40, 0}, {21, 0, 41, 40}, {21, 1, -8, 0}, {21, 1, 8, -8}, {1, 2, 3, 12}, {1, 2, 0, 3}, {1, 0, 9, 0}};
        for (int[] m : mends) {
            due("mend(" + m[0] + ", " + m[1] + ", " + m[2] + ")", x.mend(m[0], m[1], m[2]), m[3]);
        }
        due("TOUCH of 21", x.of(21, 0), 41);
        due("LIKED of 21", x.of(21, 1), 8);
        due("RUMOUR of 1", x.of(1, 20), 0);
        due("RUMOUR of 0", x.of(0, 20), 12);
        due("TOUCH of 1", x.of(1, 0), 9);
        due("LIKED of 1", x.of(1, 1), 0);

        Walk.says("VOID: BAD.");
        int[][] bad = {{22, 0, 1}, {30, 0, 1}, {-1, 0, 1}, {21, 0, 100}, {21, 0, -1}, {21, 1, 10}, {21, 1, -10}, {2, 2, 1}, {-1, 2, 1},
            {1, 2, 13}, {1, 2, -1}, {21, 3, 1}, {21, -1, 1}, {LEAST, 0, 1}, {MOST, 1, 1}, {LEAST, 2, 1}, {0, LEAST, 0}, {0, 0, MOST}};
        for (int[] b : bad) {
            due("mend(" + b[0] + ", " + b[1] + ", " + b[2] + ")", x.mend(b[0], b[1], b[2]), VOID);
        }
        due("changes", x.count(4), 7);
    }

    private static void rule() {
        Walk.heading("## Promise 7: rule `int rule(int what, int v)`:");
        Walk.says("K (what 0), QUORUM (1) becomes v: what it was. BAD.");
        VotesUntouched x = Walk.council(2, 1);
        x.cousins(1);
        Walk.touches(x, 0, 1);
        due("rule(0, 0)", x.rule(0, 0), 1);
        due("K 0", x.vote(1, 0, 0), 2);
        due("rule(0, 2)", x.rule(0, 2), 0);
        due("K 2", x.vote(1, 0, 0), 0);
        due("rule(1, 7)", x.rule(1, 7), 1);
        due("rule(1, 0)", x.rule(1, 0), 7);
        for (int[] b : new int[][] {{0, 5}, {0, -1}, {1, 11}, {1, -1}, {2, 1}, {-1, 1}, {LEAST, 0}, {0, MOST}, {1, LEAST}}) {
            due("rule(" + b[0] + ", " + b[1] + ")", x.rule(b[0], b[1]), BAD);
        }
        due("K as it was", x.rule(0, 1), 2);
        due("QUORUM as it was", x.rule(1, 1), 0);
    }

    private static void of() {
        Walk.heading("## Promise 8: of `int of(int number, int what)`:");
        Walk.says("Of pm: 0 TOUCH, 1 LIKED; of a PERSON: 10 FEE; of a MATTER: 20 RUMOUR; of ab: 30 STEPS. VOID: BAD.");
        VotesUntouched x = Walk.paid(2, 8, 77, 9);
        x.cousins(1);
        x.cousins(12);
        x.mend(21, 0, 5);
        x.mend(21, 1, -6);
        x.mend(1, 2, 4);
        int[][] told = {{21, 0, 5}, {21, 1, -6}, {1, 10, 77}, {1, 20, 4}, {2, 30, 2}, {20, 30, 2}, {11, 30, 0}, {20, 0, 0}};
        for (int[] t : told) {
            due("of(" + t[0] + ", " + t[1] + ")", x.of(t[0], t[1]), t[2]);
        }
        int[][] bad = {{22, 0}, {30, 1}, {-1, 0}, {3, 10}, {-1, 10}, {2, 20}, {-1, 20}, {3, 30}, {30, 30}, {-1, 30}, {0, 2}, {0, 3},
            {0, 9}, {0, 11}, {0, 19}, {0, 21}, {0, 29}, {0, 31}, {0, -1}, {LEAST, 0}, {MOST, 30}, {0, LEAST}, {0, MOST}};
        for (int[] b : bad) {
            due("of(" + b[0] + ", " + b[1] + ")", x.of(b[0], b[1]), VOID);
        }
    }

    private static void feed() {
        Walk.heading("## Promise 9: feed `int feed(int letter)`:");
        Walk.says("A byte (0 .. 255) comes to THE TAPE: how many it has. BAD, FULL (120).");
        VotesUntouched x = new VotesUntouched();
        for (int letter : new int[] {-1, 256, LEAST, MOST}) {
            due("feed(" + letter + ")", x.feed(letter), BAD);
        }
        for (int i = 0; i < 120; i++) {
            due("byte " + i, x.feed(i * 255 / 119), i + 1);
        }
        due("byte 120", x.feed('1'), FULL);
        due("no byte, when FULL", x.feed(256), BAD);
        due("count(3)", x.count(3), 120);
    }

    private static void law() {
        Walk.heading("## Promise 10: law `int law()`:");
        Walk.says("THE TAPE becomes THE LAW: 1; -100 less its FAULT; THE TAPE is empty then.");
        VotesUntouched x = Walk.council(2, 1);
        due("law \"p=1\"", Walk.law(x, "p=1"), 1);
        due("THE TAPE", x.count(3), 0);
        due("by it", x.vote(1, 0, 0), 2);
        due("law \"p=0\"", Walk.law(x, "p=0"), 1);
        due("by it", x.vote(1, 0, 0), 1);
        due("law \"p==1\"", Walk.law(x, "p==1"), -102);
        due("THE TAPE", x.count(3), 0);
        due("THE LAW is as it was", x.vote(1, 0, 0), 1);
        due("law \"\"", x.law(), -100);
        due("and again", x.vote(1, 0, 0), 1);
        due("what is fed next is the first", x.feed('1'), 1);
        due("law \"1\"", x.law(), 1);
        due("by it", x.vote(1, 0, 0), 3);
    }
}
