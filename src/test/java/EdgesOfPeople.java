/** Edges of promises 1 to 8: people, cousins, matters, what is told of them, rules. */
final class EdgesOfPeople {
    private static final int BAD = Edges.BAD, FULL = Edges.FULL, STATE = Edges.STATE, VOID = Edges.VOID;
    private static final int LEAST = Edges.LEAST, MOST = Edges.MOST;

    private EdgesOfPeople() {
    }

    static void test() {
        newObject();
        longUse();
        answers();
        person();
        people();
        peopleEnd();
        cousins();
        steps();
        matter();
        mendTouch();
        mendLiked();
        mendRumour();
        rule();
        of();
    }

    private static void due(String call, long got, long want) {
        Edges.due(call, got, want);
    }

    // ---- promise 1

    private static void newObject() {
        Edges.sentence(1, "Nobody, nothing.");
        VotesUntouched x = new VotesUntouched();
        for (int what = 0; what <= 6; what++) {
            due("count(" + what + ")", x.count(what), 0);
        }
        due("hermit()", x.hermit(), STATE);
        due("led(0)", x.led(0), STATE);
        due("led(3)", x.led(3), 0);
        due("led(4)", x.led(4), 0);
        due("back()", x.back(), STATE);
        due("undo()", x.undo(), STATE);
        due("redo()", x.redo(), STATE);
        due("alone()", x.alone(), 0);
        due("parted(-1)", x.parted(-1), 0);
        due("trace(0)", x.trace(0), BAD);
        due("of(0, 10)", x.of(0, 10), VOID);
        due("of(0, 20)", x.of(0, 20), VOID);
        due("two objects have nothing to do with one another", Edges.council(3, 2).count(0) + x.count(0), 3);
    }

    private static void longUse() {
        Edges.sentence(1, "An object is used for at most 512 calls after it has been made");
        due("person as the 512th", calledOften().person(99), 1);
        due("matter as the 512th", calledOften().matter(), 1);
        due("mend as the 512th", calledOften().mend(0, 0, 5), 1);
        due("feed as the 512th", calledOften().feed('1'), 1);
        due("law as the 512th", calledOften().law(), -100);
        due("vote as the 512th", calledOften().vote(1, 0, 0), 0);
        due("undo as the 512th", calledOften().undo(), 39);
        due("redo as the 512th", calledOften().redo(), STATE);
        due("body as the 512th", calledOften().body(7), 0);
        due("row as the 512th", calledOften().row(5, 3, 60), 1);
    }

    /** An object that was called 511 times. */
    private static VotesUntouched calledOften() {
        VotesUntouched x = new VotesUntouched();
        x.person(3);
        x.matter();
        for (int i = 0; i < 509; i++) {
            x.mend(0, 0, 1 + i % 2);
        }
        return x;
    }

    private static void answers() {
        Edges.sentence(1, "Answers, of several the one named first: BAD (-1): no such number, or it is not as said; NOT (-2): as"
            + " told; FULL (-3); STATE (-5): as told; -11 to -14. VOID is -2000000000.");
        due("BAD", VotesUntouched.BAD, -1);
        due("NOT", VotesUntouched.NOT, -2);
        due("FULL", VotesUntouched.FULL, -3);
        due("STATE", VotesUntouched.STATE, -5);
        due("VOID", VotesUntouched.VOID, -2000000000);
        Edges.from(Edges::full);
        Edges.refused("BAD ahead of FULL: person", x -> x.person(100), BAD);
        Edges.refused("BAD ahead of FULL: cousins", x -> x.cousins(0), BAD);
        Edges.refused("BAD ahead of FULL: feed", x -> x.feed(256), BAD);
        Edges.refused("BAD ahead of FULL: body", x -> x.body(8), BAD);
        Edges.from(Edges::some);
        Edges.refused("BAD ahead of NOT: silenced", x -> x.silenced(6, 2), BAD);
        Edges.refused("BAD ahead of STATE: decide", x -> x.decide(2, 16), BAD);
        Edges.refused("BAD ahead of -11: judge", x -> x.judge(6), BAD);
        Edges.refused("BAD ahead of -11: must", x -> x.must(5, 40), BAD);
        Edges.refused("BAD ahead of -11: taken", x -> x.taken(5, 8), BAD);
        Edges.refused("BAD ahead of -11: shift", x -> x.shift(5, 0, 6, 0, 1), BAD);
        Edges.refused("BAD ahead of -12: people", x -> x.people(2, 0, 11), BAD);
        Edges.refused("BAD ahead of -12: must", x -> x.must(0, 3), BAD);
        Edges.refused("BAD ahead of -12: taken", x -> x.taken(0, -1), BAD);
        Edges.refused("BAD ahead of -13: put", x -> x.put(6, 60, 1), BAD);
        Edges.refused("BAD ahead of -14: row", x -> x.row(0, 5, -1), BAD);
        Edges.refused("-11 ahead of -12: shift", x -> x.shift(5, 0, 4, 0, 1), -11);
        Edges.refused("-11 ahead of -12: shift", x -> x.shift(4, 0, 5, 0, 1), -11);
        Edges.refused("-11 ahead of -13: put", x -> x.put(5, -1, 1), -11);
        Edges.refused("-11 ahead of -13: shift", x -> x.shift(0, 9, 5, 0, 1), -11);
        Edges.refused("-12 ahead of -13: put", x -> x.put(4, -1, 1), -12);
        Edges.refused("-12 ahead of -13: shift", x -> x.shift(0, -1, 1, 0, 1), -12);
        Edges.from(Edges::empty);
        Edges.refused("BAD ahead of STATE: led", x -> x.led(5), BAD);
        Edges.sentence(1, "What is answered so changes nothing.");
        Edges.from(Edges::some);
        Edges.refused("BAD", x -> x.mend(0, 0, 100), VOID);
        Edges.refused("NOT", x -> x.leaveOut(0, 1), Edges.NOT);
        Edges.refused("STATE", x -> x.decide(2, 0) + x.decide(2, 2) + x.decide(3, 0), 3 * STATE);
        Edges.refused("-11", x -> x.put(5, 0, 1), -11);
        Edges.refused("-12", x -> x.put(4, 0, 1), -12);
        Edges.refused("-13", x -> x.put(2, 3, 1), -13);
        Edges.refused("-14", x -> x.row(2, 2, -1), -14);
        Edges.from(Edges::full);
        Edges.refused("FULL", x -> x.person(1), FULL);
        Edges.refused("FULL again and again", x -> x.person(1) + x.matter() + x.body(0) + x.feed('1') + x.cousins(9), 5 * FULL);
    }

    // ---- promise 2

    private static void person() {
        Edges.sentence(2, "PEOPLE 0 .. 9, as they come");
        VotesUntouched x = new VotesUntouched();
        for (int i = 0; i <= 9; i++) {
            due("person(3)", x.person(3), i);
            due("count(0)", x.count(0), i + 1);
        }
        due("of(9, 10)", x.of(9, 10), 3);
        due("of(10, 10)", x.of(10, 10), VOID);

        Edges.sentence(2, "a FEE (0 .. 99: what a gift to it costs)");
        VotesUntouched y = new VotesUntouched();
        due("person(0)", y.person(0), 0);
        due("person(99)", y.person(99), 1);
        due("of(0, 10)", y.of(0, 10), 0);
        due("of(1, 10)", y.of(1, 10), 99);
        y.matter();
        y.decide(1, 1);
        due("what a gift to 0 costs", y.led(4), 0);
        y.decide(1, 2);
        due("what a gift to 1 costs", y.led(4), 99);
        VotesUntouched dear = new VotesUntouched();
        for (int i = 0; i < 10; i++) {
            dear.person(99);
        }
        dear.matter();
        dear.decide(1, 1023);
        due("what gifts to all cost", dear.led(4), 990);

        Edges.sentence(2, "A PERSON: the number. BAD, FULL: 10.");
        for (Edges.Start start : new Edges.Start[] {Edges::empty, Edges::some}) {
            Edges.from(start);
            Edges.refused("person(-1)", p -> p.person(-1), BAD);
            Edges.refused("person(100)", p -> p.person(100), BAD);
            Edges.refused("person(least)", p -> p.person(LEAST), BAD);
            Edges.refused("person(most)", p -> p.person(MOST), BAD);
            Edges.refused("person(256)", p -> p.person(256), BAD);
        }
        Edges.from(Edges::full);
        Edges.refused("the eleventh", p -> p.person(0), FULL);
        Edges.refused("the eleventh, with the dearest fee", p -> p.person(99), FULL);
        due("the tenth", Edges.council(9, 0).person(99), 9);
    }

    // ---- promise 3

    /** A row of bytes 0, 1, 2 .. on shelf 0, and so many people. */
    private static VotesUntouched withBytes(int people, int length) {
        VotesUntouched x = Edges.council(people, 0);
        x.row(0, 0, length);
        for (int i = 0; i < length; i++) {
            x.put(0, i, i);
        }
        return x;
    }

    private static void people() {
        Edges.sentence(3, "PEOPLE FROM A ROW on a SHELF, from place i on, n (1 .. 10) of them: how many came.");
        due("one of them", withBytes(0, 60).people(0, 0, 1), 1);
        due("ten of them", withBytes(0, 60).people(0, 0, 10), 10);
        due("ten of them from the last place that has ten", withBytes(0, 60).people(0, 50, 10), 10);
        VotesUntouched x = withBytes(2, 60);
        due("three of them", x.people(0, 57, 3), 3);
        due("the first of them", x.of(2, 10), 57);
        due("the last of them", x.of(4, 10), 59);
        due("count(0)", x.count(0), 5);
        Edges.from(Edges::some);
        Edges.refused("none of them", c -> c.people(0, 0, 0), BAD);
        Edges.refused("eleven of them", c -> c.people(0, 0, 11), BAD);
        Edges.refused("least", c -> c.people(0, 0, LEAST), BAD);
        Edges.refused("most", c -> c.people(0, 0, MOST), BAD);
        Edges.refused("none of a missing row", c -> c.people(5, 0, 0), BAD);

        Edges.sentence(3, "BAD, -12 (no ROW of bytes; a SHELF that holds nothing is missing).");
        Edges.refused("shelf -1", c -> c.people(-1, 0, 1), BAD);
        Edges.refused("shelf 6", c -> c.people(6, 0, 1), BAD);
        Edges.refused("shelf least", c -> c.people(LEAST, 0, 1), BAD);
        Edges.refused("shelf most", c -> c.people(MOST, 0, 1), BAD);
        Edges.refused("a row of shorts", c -> c.people(1, 0, 1), -12);
        Edges.refused("a row of ints", c -> c.people(2, 0, 1), -12);
        Edges.refused("a row of longs", c -> c.people(3, 1, 1), -12);
        Edges.refused("a voter", c -> c.people(4, 0, 1), -12);
        Edges.refused("a shelf that holds nothing", c -> c.people(5, 0, 1), 0);
        VotesUntouched y = new VotesUntouched();
        Edges.row(y, 5, 4, 1, 1);
        due("a row of booleans", y.people(5, 0, 1), -12);
        y.row(5, 1, 0);
        due("a row of no shorts", y.people(5, 0, 1), -12);
        Edges.row(y, 5, 0, 7);
        due("shelf 5", y.people(5, 0, 1), 1);
    }

    private static void peopleEnd() {
        String ending = "PEOPLE FROM A ROW of bytes, from a place on: each a FEE: n of them; it ends where the row is missing,"
            + " ends, one is not so, or PEOPLE are FULL: those ahead came.";
        Edges.sentence(3, ending);
        Edges.from(Edges::empty);
        Edges.asked("nothing is there: the row is missing", x -> x.people(0, 0, 10), 0);
        due("a row of none ends", withBytes(0, 0).people(0, 0, 1), 0);
        due("it ends behind the last", withBytes(0, 5).people(0, 4, 2), 1);
        due("from the end", withBytes(0, 5).people(0, 5, 1), 0);
        due("from behind the end", withBytes(0, 5).people(0, 6, 1), 0);
        due("from far behind the end", withBytes(0, 5).people(0, MOST, 10), 0);
        due("the longest row ends", withBytes(0, 60).people(0, 59, 10), 1);
        due("from behind the longest row", withBytes(0, 60).people(0, 60, 1), 0);
        due("from ahead of the first", withBytes(0, 5).people(0, -1, 5), 0);
        due("from far ahead of the first", withBytes(0, 5).people(0, LEAST, 5), 0);
        VotesUntouched x = withBytes(0, 0);
        Edges.row(x, 0, 0, 99, 0, 100, 1, -1, 2, 127, -128, 99);
        due("one is 100", x.people(0, 0, 10), 2);
        due("it is of 99", x.of(0, 10), 99);
        due("it is of 0", x.of(1, 10), 0);
        due("the first is 100", x.people(0, 2, 10), 0);
        due("one is -1", x.people(0, 3, 10), 1);
        due("the first is -1", x.people(0, 4, 1), 0);
        due("one is 127", x.people(0, 5, 2), 1);
        due("the first is 127", x.people(0, 6, 2), 0);
        due("the first is -128", x.people(0, 7, 2), 0);
        due("the last", x.people(0, 8, 1), 1);
        due("those ahead came", x.count(0), 5);
        VotesUntouched nine = withBytes(9, 10);
        due("one more has room", nine.people(0, 3, 2), 1);
        due("it came", nine.of(9, 10), 3);
        due("PEOPLE are FULL", nine.people(0, 3, 2), 0);
        due("eight and two", withBytes(8, 10).people(0, 0, 2), 2);
        Edges.from(() -> withBytes(10, 5));
        Edges.refused("PEOPLE are FULL from the first", c -> c.people(0, 0, 1), 0);
        Edges.from(Edges::some);
        Edges.refused("nobody comes from behind the end", c -> c.people(0, 6, 3), 0);
    }

    // ---- promise 4

    private static void cousins() {
        Edges.sentence(4, "COUSINS: pairs, as they come (12 at most)");
        VotesUntouched x = Edges.council(10, 0);
        int[] pairs = {98, 1, 90, 12, 23, 34, 45, 56, 67, 78, 5, 16};
        for (int i = 0; i < pairs.length; i++) {
            due("cousins(" + pairs[i] + ")", x.cousins(pairs[i]), i + 1);
            due("count(2)", x.count(2), i + 1);
        }
        due("the thirteenth", x.cousins(27), FULL);
        due("count(2)", x.count(2), 12);

        Edges.sentence(4, "COUSINS (ab: 10 times the one and the other): how many pairs. BAD (one and the same, or pairs already),"
            + " FULL: 12.");
        Edges.from(Edges::some);
        int[] bad = {0, 11, 33, 1, 10, 12, 21, 4, 40, 34, 44, -1, -10, -11, 99, 100, 101, 103, LEAST, MOST};
        for (int ab : bad) {
            Edges.refused("cousins(" + ab + ")", c -> c.cousins(ab), BAD);
        }
        due("the least and the last", Edges.some().cousins(3), 3);
        due("the last and the least", Edges.some().cousins(30), 3);
        Edges.from(Edges::full);
        Edges.refused("the thirteenth", c -> c.cousins(9), FULL);
        Edges.refused("the thirteenth, the other way", c -> c.cousins(90), FULL);
        Edges.refused("pairs already, and full", c -> c.cousins(98), BAD);
        Edges.refused("one and the same, and full", c -> c.cousins(99), BAD);
        Edges.refused("no such one, and full", c -> c.cousins(100), BAD);
        Edges.from(Edges::empty);
        Edges.refused("nobody", c -> c.cousins(1), BAD);
        Edges.refused("nobody and the same", c -> c.cousins(0), BAD);
        Edges.from(() -> Edges.council(1, 0));
        Edges.refused("one there", c -> c.cousins(1), BAD);
        Edges.refused("one there, and the same", c -> c.cousins(0), BAD);
        due("two there", Edges.council(2, 0).cousins(1), 1);
    }

    private static void steps() {
        Edges.sentence(4, "STEPS between two: the fewest pairs from one to the other (0 itself; 9: none).");
        VotesUntouched x = Edges.council(10, 0);
        for (int a = 0; a < 10; a++) {
            due("to itself", x.of(11 * a, 30), 0);
            due("none", x.of(10 * a + (a + 1) % 10, 30), 9);
        }
        for (int i = 0; i < 8; i++) {
            x.cousins(11 * i + 1);
        }
        due("one", x.of(1, 30), 1);
        due("eight, the most that can be told from none", x.of(8, 30), 8);
        due("eight, the other way", x.of(80, 30), 8);
        due("none", x.of(9, 30), 9);
        x.cousins(89);
        due("nine", x.of(9, 30), 9);
        due("eight", x.of(19, 30), 8);
        x.cousins(90);
        due("round", x.of(9, 30), 1);
        due("the longer way round", x.of(5, 30), 5);
        due("the shorter way round", x.of(6, 30), 4);
        due("to itself still", x.of(99, 30), 0);
    }

    // ---- promise 5

    private static void matter() {
        Edges.sentence(5, "MATTERS 0 .. 5, as they come");
        VotesUntouched x = Edges.council(1, 0);
        for (int i = 0; i <= 5; i++) {
            due("not yet", x.of(i, 20), VOID);
            due("matter()", x.matter(), i);
            due("count(1)", x.count(1), i + 1);
        }
        Edges.sentence(5, "A MATTER that touches nobody: its number. FULL: 6.");
        Edges.from(Edges::full);
        Edges.refused("the seventh", c -> c.matter(), FULL);
        VotesUntouched y = Edges.council(10, 6);
        for (int p = 0; p < 10; p++) {
            for (int m = 0; m < 6; m++) {
                due("TOUCH", y.of(10 * p + m, 0), 0);
            }
        }
        due("all may vote on all", y.vote(63, 0, 0), 1023);
        y.mend(5, 0, 4);
        due("people come later, too", y.of(5, 0) + y.of(15, 0), 4);
    }

    // ---- promise 6

    private static void mendTouch() {
        Edges.sentence(6, "each touches each of PEOPLE by TOUCH (0 .. 99; 0 at first)");
        VotesUntouched x = Edges.council(10, 6);
        due("it was 0", x.mend(0, 0, 99), 0);
        due("it was 99", x.mend(0, 0, 0), 99);
        due("it was 0", x.mend(0, 0, 1), 0);
        due("the last of both", x.mend(95, 0, 98), 0);
        due("of(0, 0)", x.of(0, 0), 1);
        due("of(95, 0)", x.of(95, 0), 98);
        due("its neighbours", x.of(94, 0) + x.of(85, 0) + x.of(90, 0) + x.of(95, 1), 0);
        Edges.from(Edges::some);
        for (int v : new int[] {-1, 100, LEAST, MOST, VOID}) {
            Edges.refused("mend(0, 0, " + v + ")", c -> c.mend(0, 0, v), VOID);
        }

        Edges.sentence(6, "VOID: BAD.");
        for (int pm : new int[] {3, 33, 40, 42, -1, -10, 13, 100, 101, 1000, LEAST, MOST}) {
            Edges.refused("mend(" + pm + ", 0, 1)", c -> c.mend(pm, 0, 1), VOID);
            Edges.refused("mend(" + pm + ", 1, 1)", c -> c.mend(pm, 1, 1), VOID);
            Edges.refused("mend(" + pm + ", 2, 1)", c -> c.mend(pm, 2, 1), VOID);
        }
        Edges.refused("the first pm that is no matter", c -> c.mend(10, 2, 1), VOID);
        for (int what : new int[] {-1, 3, 10, 20, LEAST, MOST}) {
            Edges.refused("mend(0, " + what + ", 1)", c -> c.mend(0, what, 1), VOID);
        }
        due("the last pm that there is", Edges.some().mend(32, 0, 1), 0);
        Edges.from(Edges::full);
        for (int pm : new int[] {6, 9, 96, 99, 100, 105, -5}) {
            Edges.refused("mend(" + pm + ", 0, 1)", c -> c.mend(pm, 0, 1), VOID);
        }
        Edges.from(() -> Edges.council(0, 6));
        Edges.refused("nobody", c -> c.mend(0, 0, 1), VOID);
        Edges.from(() -> Edges.council(10, 0));
        Edges.refused("no matter", c -> c.mend(0, 1, 1), VOID);
        Edges.refused("no matter's rumour", c -> c.mend(0, 2, 1), VOID);
    }

    private static void mendLiked() {
        Edges.sentence(6, "is LIKED by each (-9 .. 9; 0 at first)");
        VotesUntouched x = Edges.council(10, 6);
        due("it was 0", x.mend(95, 1, -9), 0);
        due("it was -9", x.mend(95, 1, 9), -9);
        due("it was 9", x.mend(95, 1, -1), 9);
        due("of(95, 1)", x.of(95, 1), -1);
        due("the first of both", x.of(0, 1), 0);
        due("TOUCH is as it was", x.of(95, 0), 0);
        Edges.from(Edges::some);
        for (int v : new int[] {-10, 10, LEAST, MOST}) {
            Edges.refused("mend(0, 1, " + v + ")", c -> c.mend(0, 1, v), VOID);
        }
    }

    private static void mendRumour() {
        Edges.sentence(6, "RUMOUR (0 .. 12; 12 at first)");
        VotesUntouched x = Edges.council(0, 6);
        for (int m = 0; m < 6; m++) {
            due("it was 12", x.mend(m, 2, 0), 12);
            due("it was 0", x.mend(m, 2, 12), 0);
            due("it was 12", x.mend(m, 2, 11), 12);
            due("of(m, 20)", x.of(m, 20), 11);
        }
        Edges.from(Edges::some);
        for (int v : new int[] {-1, 13, LEAST, MOST}) {
            Edges.refused("mend(1, 2, " + v + ")", c -> c.mend(1, 2, v), VOID);
        }
        Edges.from(Edges::full);
        Edges.refused("the seventh matter", c -> c.mend(6, 2, 3), VOID);
        Edges.refused("no matter by the tens", c -> c.mend(10, 2, 3), VOID);
        Edges.refused("matter -1", c -> c.mend(-1, 2, 3), VOID);
    }

    // ---- promise 7

    private static void rule() {
        Edges.sentence(7, "K (0 .. 4; 1 at first)");
        VotesUntouched x = new VotesUntouched();
        due("K at first", x.rule(0, 0), 1);
        due("it was 0", x.rule(0, 4), 0);
        due("it was 4", x.rule(0, 3), 4);
        due("QUORUM is as it was", x.rule(1, 1), 1);
        due("K is as it was", x.rule(0, 3), 3);
        Edges.from(Edges::some);
        for (int v : new int[] {-1, 5, 10, LEAST, MOST}) {
            Edges.refused("rule(0, " + v + ")", c -> c.rule(0, v), BAD);
        }

        Edges.sentence(7, "QUORUM (0 .. 10; 1 at first)");
        VotesUntouched y = new VotesUntouched();
        due("QUORUM at first", y.rule(1, 0), 1);
        due("it was 0", y.rule(1, 10), 0);
        due("it was 10", y.rule(1, 9), 10);
        due("K is as it was", y.rule(0, 1), 1);
        for (int v : new int[] {-1, 11, LEAST, MOST}) {
            Edges.refused("rule(1, " + v + ")", c -> c.rule(1, v), BAD);
        }

        Edges.sentence(7, "K (what 0), QUORUM (1) becomes v: what it was. BAD.");
        for (int what : new int[] {-1, 2, LEAST, MOST}) {
            Edges.refused("rule(" + what + ", 1)", c -> c.rule(what, 1), BAD);
        }
    }

    // ---- promise 8

    private static void of() {
        Edges.sentence(8, "Of pm: 0 TOUCH, 1 LIKED; of a PERSON: 10 FEE; of a MATTER: 20 RUMOUR; of ab: 30 STEPS. VOID: BAD.");
        Edges.from(Edges::some);
        Edges.asked("TOUCH of the first", x -> x.of(0, 0), 9);
        Edges.asked("LIKED of the first", x -> x.of(0, 1), 3);
        Edges.asked("LIKED of the last", x -> x.of(32, 1), 0);
        Edges.asked("FEE of the first", x -> x.of(0, 10), 5);
        Edges.asked("FEE of the last", x -> x.of(3, 10), 40);
        Edges.asked("RUMOUR of the last", x -> x.of(2, 20), 12);
        Edges.asked("STEPS", x -> x.of(20, 30), 2);
        for (int pm : new int[] {3, 33, 40, -1, -10, 100, LEAST, MOST}) {
            Edges.refused("of(" + pm + ", 0)", x -> x.of(pm, 0), VOID);
            Edges.refused("of(" + pm + ", 1)", x -> x.of(pm, 1), VOID);
        }
        for (int person : new int[] {4, 10, -1, LEAST, MOST}) {
            Edges.refused("of(" + person + ", 10)", x -> x.of(person, 10), VOID);
        }
        for (int matter : new int[] {3, 6, 10, -1, LEAST, MOST}) {
            Edges.refused("of(" + matter + ", 20)", x -> x.of(matter, 20), VOID);
        }
        for (int ab : new int[] {4, 40, 44, 34, -1, -10, 100, 101, LEAST, MOST}) {
            Edges.refused("of(" + ab + ", 30)", x -> x.of(ab, 30), VOID);
        }
        for (int what : new int[] {-1, 2, 3, 9, 11, 19, 21, 29, 31, 40, LEAST, MOST}) {
            Edges.refused("of(0, " + what + ")", x -> x.of(0, what), VOID);
        }
        Edges.from(Edges::empty);
        for (int what : new int[] {0, 1, 10, 20, 30}) {
            Edges.refused("nothing there yet: of(0, " + what + ")", x -> x.of(0, what), VOID);
        }
        Edges.from(Edges::full);
        Edges.asked("the last of both", x -> x.of(99, 30), 0);
        Edges.refused("beyond the last matter", x -> x.of(96, 0), VOID);
        Edges.refused("beyond the last person", x -> x.of(100, 0), VOID);
        Edges.refused("the eleventh", x -> x.of(10, 10), VOID);
        Edges.refused("the seventh", x -> x.of(6, 20), VOID);
        Edges.refused("two beyond the last", x -> x.of(100, 30), VOID);
    }
}
