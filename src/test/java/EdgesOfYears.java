/** Edges of promises 24 to 31: years, votes in deed, images, changes undone and done again. */
final class EdgesOfYears {
    private static final int BAD = Edges.BAD, NOT = Edges.NOT, STATE = Edges.STATE;
    private static final int LEAST = Edges.LEAST, MOST = Edges.MOST;

    private EdgesOfYears() {
    }

    static void test() {
        rows();
        judge();
        must();
        decide();
        decided();
        led();
        image();
        back();
        undo();
        redo();
        kept();
        sameNumber();
    }

    private static void due(String call, long got, long want) {
        Edges.due(call, got, want);
    }

    /** Three people, two matters, the first of which touches person 0 and, by its cousin, person 1. */
    private static VotesUntouched withYears(long... row) {
        VotesUntouched x = Edges.council(3, 2);
        x.cousins(1);
        x.mend(0, 0, 1);
        Edges.row(x, 0, 1, row);
        return x;
    }

    private static int judged(long... row) {
        return withYears(row).judge(0);
    }

    private static int shown(int pm, long... row) {
        return withYears(row).must(0, pm);
    }

    // ---- promise 24

    private static void rows() {
        Edges.sentence(24, "JUDGED. BAD, -11, -12 (no ROW of shorts); NOT.");
        Edges.from(Edges::some);
        for (int shelf : new int[] {-1, 6, LEAST, MOST}) {
            Edges.refused("judge(" + shelf + ")", x -> x.judge(shelf), BAD);
            Edges.refused("must(" + shelf + ", 0)", x -> x.must(shelf, 0), BAD);
        }
        Edges.refused("nothing there", x -> x.judge(5), -11);
        Edges.refused("a row of bytes", x -> x.judge(0), -12);
        Edges.refused("a row of ints", x -> x.judge(2), -12);
        Edges.refused("a row of longs", x -> x.judge(3), -12);
        Edges.refused("a voter", x -> x.judge(4), -12);
        Edges.asked("a row of shorts", x -> x.judge(1), 1);
        VotesUntouched x = withYears();
        x.row(5, 4, 2);
        due("a row of booleans", x.judge(5), -12);
        x.row(5, 0, 0);
        due("a row of no bytes", x.judge(5), -12);
        x.row(5, 1, 0);
        due("the last shelf", x.judge(5), NOT);
        Edges.from(Edges::empty);
        Edges.refused("nothing there at first", c -> c.judge(0), -11);
        Edges.refused("nothing there at first", c -> c.judge(5), -11);
    }

    private static void judge() {
        Edges.sentence(24, "A YEAR: a ROW of shorts on a SHELF: by twos a BUNDLE, and who was silent (bits): JUDGED: the first two that is"
            + " not as it must be (no BUNDLE; silent are not just those who may not vote; a two's end that lacks); NOT.");
        due("no twos", judged(), NOT);
        due("one two", judged(1, 3), NOT);
        due("the first", judged(1, 2), 0);
        due("the second", judged(1, 3, 2, 1), 1);
        due("the first of two that are not", judged(1, 3, 2, 1, 3, 0), 1);
        due("nobody is silent, as it must be", judged(2, 0), NOT);
        due("one who may is silent", judged(2, 4), 0);
        due("one who may not is not silent", judged(1, 1), 0);
        due("one more is silent", judged(1, 7), 0);
        due("the first who is not there is silent", judged(1, 11), 0);
        due("the last bit", judged(1, -32765), 0);
        due("all bits", judged(1, -1), 0);
        due("no BUNDLE: 0", judged(0, 0), 0);
        due("no BUNDLE: beyond all", judged(4, 0), 0);
        due("no BUNDLE: with one that is there", judged(5, 3), 0);
        due("no BUNDLE: below 0", judged(-1, 3), 0);
        due("no BUNDLE: the least", judged(-32768, 0), 0);
        due("all MATTERS", judged(3, 3), NOT);
        due("a first two's end lacks", judged(1), 0);
        due("a second two's end lacks", judged(1, 3, 2), 1);
        due("a second two's end lacks, a first is not as it must be", judged(1, 0, 2), 0);
        VotesUntouched x = withYears();
        x.row(0, 1, 60);
        due("zeros are no BUNDLE", x.judge(0), 0);
        for (int i = 0; i < 60; i += 2) {
            due("the first that is none", x.judge(0), i / 2);
            x.put(0, i, 1);
            x.put(0, i + 1, 3);
        }
        due("the longest row", x.judge(0), NOT);
        x.put(0, 59, 4);
        due("the last of it", x.judge(0), 29);
        x.row(0, 1, 59);
        for (int i = 0; i < 59; i++) {
            x.put(0, i, i % 2 == 0 ? 2 : 0);
        }
        due("its last two's end lacks", x.judge(0), 29);
        VotesUntouched all = Edges.council(10, 6);
        Edges.law(all, "0");
        Edges.row(all, 0, 1, 63, 1023);
        due("all silent on all", all.judge(0), NOT);
        Edges.row(all, 0, 1, 64, 1023);
        due("beyond all", all.judge(0), 0);
    }

    // ---- promise 25

    private static void must() {
        Edges.sentence(25, "MUST. BAD, -11, -12.");
        Edges.from(Edges::some);
        for (int pm : new int[] {3, 33, 40, -1, -10, 13, 100, LEAST, MOST}) {
            Edges.refused("must(1, " + pm + ")", x -> x.must(1, pm), BAD);
        }
        Edges.refused("nothing there", x -> x.must(5, 0), -11);
        Edges.refused("a row of bytes", x -> x.must(0, 0), -12);
        Edges.refused("a row of ints", x -> x.must(2, 0), -12);
        Edges.refused("a row of longs", x -> x.must(3, 0), -12);
        Edges.refused("a voter", x -> x.must(4, 0), -12);
        Edges.asked("must(1, 0)", x -> x.must(1, 0), 1);
        Edges.asked("must(1, 32)", x -> x.must(1, 32), 0);
        Edges.from(Edges::empty);
        Edges.refused("nobody, nothing: BAD first", x -> x.must(0, 0), BAD);

        Edges.sentence(25, "MUST: by such a ROW, for one PERSON and a MATTER: 1, if whoever was silent shows that the PERSON is touched by"
            + " it: it was silent on a BUNDLE with that MATTER, and voted on one without it that has all else of that BUNDLE (or that"
            + " MATTER alone was the BUNDLE); else 0");
        due("no twos", shown(0), 0);
        due("alone", shown(0, 1, 1), 1);
        due("alone, and voted", shown(0, 1, 0), 0);
        due("alone, and another was silent", shown(0, 1, 6), 0);
        due("alone, but another MATTER", shown(0, 2, 1), 0);
        due("both, and voted on the other", shown(0, 3, 1, 2, 0), 1);
        due("voted on the other, and silent on both behind it", shown(0, 2, 0, 3, 1), 1);
        due("both, and silent on the other", shown(0, 3, 1, 2, 1), 0);
        due("both, and no vote on the other", shown(0, 3, 1), 0);
        due("voted on both and on the other", shown(0, 3, 0, 2, 0), 0);
        due("voted on the other, silent on nothing", shown(0, 2, 0), 0);
        due("silent on both, voted on both", shown(0, 3, 1, 3, 0), 0);
        due("silent on both, voted on that MATTER itself", shown(0, 3, 1, 1, 0), 0);
        due("the last person, the last matter", shown(21, 3, 4, 1, 0), 1);
        due("the last person alone", shown(21, 2, 4), 1);
        due("silent on both, voted on both: the last matter", shown(21, 3, 4, 3, 0), 0);
        due("by twos from the first on", shown(0, 3, 1, 3, 2, 2, 1), 0);
        int[][] rests = {{6, 1}, {14, 1}, {2, 0}, {4, 0}, {10, 0}, {7, 0}, {1, 0}, {15, 0}, {8, 0}};
        for (int[] rest : rests) {
            VotesUntouched x = Edges.council(1, 4);
            Edges.row(x, 0, 1, 7, 1, rest[0], 0);
            due("silent on three, voted on " + rest[0], x.must(0, 0), rest[1]);
        }
        VotesUntouched parts = Edges.council(1, 4);
        Edges.row(parts, 0, 1, 7, 1, 2, 0, 4, 0);
        due("all else, by two votes", parts.must(0, 0), 0);
        Edges.row(parts, 0, 1, 7, 1, 15, 1, 6, 0);
        due("all else, behind another", parts.must(0, 0), 1);

        Edges.sentence(25, "(THE LAW, cousins, whether the ROW is JUDGED so do not matter; twos that are no BUNDLE, or half, do not count)");
        due("silent on no BUNDLE: with one beyond", shown(0, 5, 1, 4, 0), 0);
        due("silent on no BUNDLE: below 0", shown(0, -1, 1, 2, 0), 0);
        due("silent on no BUNDLE: 0", shown(0, 0, 1), 0);
        due("voted on no BUNDLE", shown(0, 3, 1, 6, 0), 0);
        due("voted on no BUNDLE: below 0", shown(0, 3, 1, -2, 0), 0);
        due("half: voted", shown(0, 3, 1, 2), 0);
        due("half: silent", shown(0, 2, 0, 3), 0);
        due("half: alone", shown(0, 1), 0);
        due("behind twos that do not count", shown(0, 0, 0, -1, -1, 4, 0, 1, 1), 1);
        due("all bits are silent", shown(20, 1, -1), 1);
        due("the last bit is nobody", shown(20, 1, -32768), 0);
        VotesUntouched x = withYears(1, 1);
        Edges.law(x, "1");
        due("THE LAW does not matter", x.must(0, 0), 1);
        x.mend(0, 0, 0);
        due("nor whether the row is judged so", x.must(0, 0), 1);
        VotesUntouched cousin = withYears(1, 2);
        due("cousins do not matter", cousin.must(0, 10), 1);
        VotesUntouched all = Edges.council(10, 6);
        all.row(0, 1, 60);
        all.put(0, 0, 31);
        all.put(0, 58, 63);
        all.put(0, 59, 512);
        due("the first and the last two of the longest row", all.must(0, 95), 1);
        all.put(0, 1, 512);
        due("silent on the first", all.must(0, 95), 0);
    }

    // ---- promise 26

    private static void decide() {
        Edges.sentence(26, "A BUNDLE with GIFTS is put to the vote in deed: CARRIED (1, 0). BAD; STATE: one of its MATTERS is DECIDED.");
        Edges.from(Edges::some);
        for (int bundle : new int[] {0, 8, -1, 64, LEAST, MOST}) {
            Edges.refused("decide(" + bundle + ", 0)", x -> x.decide(bundle, 0), BAD);
        }
        for (int gifts : new int[] {-1, 16, 1024, LEAST, MOST}) {
            Edges.refused("decide(4, " + gifts + ")", x -> x.decide(4, gifts), BAD);
        }
        Edges.refused("a BUNDLE that is DECIDED", x -> x.decide(2, 0), STATE);
        Edges.refused("one of its MATTERS is DECIDED", x -> x.decide(7, 0), STATE);
        Edges.refused("with gifts", x -> x.decide(3, 15), STATE);
        Edges.refused("gifts that are none, and DECIDED", x -> x.decide(2, 16), BAD);
        due("one that is not DECIDED", Edges.some().decide(1, 0), 0);
        due("one that was put and is not DECIDED", Edges.some().decide(4, 0), 0);
        due("all gifts", Edges.some().decide(5, 15), 0);
        Edges.from(Edges::empty);
        Edges.refused("nothing", x -> x.decide(1, 0), BAD);
        due("the greatest", Edges.council(10, 6).decide(63, 1023), 0);
        due("beyond it", Edges.council(10, 6).decide(64, 0), BAD);
        due("gifts beyond", Edges.council(10, 6).decide(63, 1024), BAD);
    }

    private static void decided() {
        Edges.sentence(26, "DECIDED: MATTERS (bits) that were CARRIED in deed; one that was is no more put.");
        VotesUntouched x = Edges.council(1, 6);
        for (int m = 0; m < 6; m++) {
            x.mend(m, 1, m == 2 ? -1 : 1);
        }
        due("one is not CARRIED", x.decide(4, 0), 0);
        due("nothing is DECIDED", x.led(3), 0);
        due("the last", x.decide(32, 0), 1);
        due("it is no more put", x.decide(32, 0), STATE);
        due("nor with others", x.decide(63, 0), STATE);
        due("nor with one", x.decide(33, 0), STATE);
        due("the others are", x.decide(31, 0), 1);
        due("all are DECIDED", x.led(3), 63);
        for (int m = 0; m < 6; m++) {
            due("none is put", x.decide(1 << m, 0), STATE);
        }
        due("votes not in deed go on", x.vote(32, 0, 3), 1);
    }

    // ---- promise 27

    private static void led() {
        Edges.sentence(27, "the latest BUNDLE (what 0), its GIFTS (1), whether it was CARRIED (2); DECIDED (3), FEES so far (4). BAD; STATE"
            + " (0 to 2): none was put.");
        Edges.from(Edges::empty);
        for (int what = 0; what <= 2; what++) {
            int w = what;
            Edges.refused("none was put: led(" + w + ")", x -> x.led(w), STATE);
        }
        Edges.asked("none was put: DECIDED", x -> x.led(3), 0);
        Edges.asked("none was put: FEES", x -> x.led(4), 0);
        for (int what : new int[] {-1, 5, 6, LEAST, MOST}) {
            Edges.refused("led(" + what + ")", x -> x.led(what), BAD);
        }
        Edges.from(Edges::some);
        for (int what : new int[] {-1, 5, 6, LEAST, MOST}) {
            Edges.refused("led(" + what + ")", x -> x.led(what), BAD);
        }
        Edges.asked("the latest BUNDLE", x -> x.led(0), 4);
        Edges.asked("its GIFTS", x -> x.led(1), 9);
        Edges.asked("it was not CARRIED", x -> x.led(2), 0);
        Edges.asked("DECIDED", x -> x.led(3), 2);
        Edges.asked("FEES so far", x -> x.led(4), 5 + 45);
        VotesUntouched x = Edges.some();
        x.decide(4, 16);
        x.decide(2, 2);
        x.decide(0, 0);
        due("refused ones are not the latest", x.led(0), 4);
        due("refused ones are not paid", x.led(4), 50);
        x.mend(2, 1, 5);
        due("put once more", x.decide(4, 0), 1);
        due("without GIFTS", x.led(1), 0);
        due("it was CARRIED", x.led(2), 1);
        due("FEES are as they were", x.led(4), 50);

        Edges.sentence(27, "LED: the latest vote in deed (decide()): BUNDLE with GIFTS (paid: FEES so far)");
        VotesUntouched dear = new VotesUntouched();
        for (int p = 0; p < 10; p++) {
            dear.person(99);
        }
        dear.matter();
        for (int i = 1; i <= 100; i++) {
            dear.decide(1, 1023);
        }
        due("paid whether it is CARRIED or not, again and again", dear.led(4), 99000);
    }

    // ---- promises 28 and 29

    private static void image() {
        Edges.sentence(28, "AN IMAGE keeps what LED tells.");
        VotesUntouched x = Edges.council(1, 2);
        x.mend(0, 1, 1);
        x.mend(1, 1, 1);
        due("of nothing put", x.image(), 0);
        x.decide(2, 0);
        due("of one", x.image(), 2);
        x.decide(1, 0);
        due("of both", x.image(), 3);
        due("of both once more", x.image(), 3);
        due("the latest image", x.back(), 3);
        due("the latest BUNDLE", x.led(0), 1);
        VotesUntouched y = Edges.some();
        y.mend(0, 1, 9);
        y.rule(0, 4);
        y.row(0, 4, 1);
        y.back();
        due("likings are as they became", y.of(0, 1), 9);
        due("K is as it became", y.rule(0, 1), 4);
        due("shelves are as they became", y.put(0, 1, 1), -13);
    }

    private static void back() {
        Edges.sentence(29, "What LED tells is as in THE IMAGE: DECIDED. STATE: there is none.");
        Edges.from(Edges::empty);
        Edges.refused("there is none", x -> x.back(), STATE);
        Edges.from(() -> {
            VotesUntouched x = Edges.council(2, 2);
            x.mend(0, 1, 1);
            x.decide(1, 2);
            return x;
        });
        Edges.refused("there is none, though one was put", x -> x.back(), STATE);
        VotesUntouched x = Edges.council(2, 2);
        x.mend(0, 1, 1);
        x.image();
        x.decide(1, 0);
        due("back to nothing", x.back(), 0);
        for (int what = 0; what <= 2; what++) {
            due("none was put", x.led(what), STATE);
        }
        due("it may be put again", x.decide(1, 0), 1);
        due("back once more", x.back(), 0);
        due("back where it is", x.back(), 0);
        VotesUntouched y = Edges.some();
        due("back to one", y.back(), 2);
        due("BUNDLE", y.led(0), 2);
        due("GIFTS", y.led(1), 1);
        due("CARRIED", y.led(2), 1);
        due("DECIDED", y.led(3), 2);
        due("FEES", y.led(4), 5);
        due("what is DECIDED in the image is no more put", y.decide(2, 0), STATE);
    }

    // ---- promises 30 and 31

    private static void undo() {
        Edges.sentence(30, "UNDONE: how many may still be. STATE: none.");
        Edges.from(Edges::empty);
        Edges.refused("none", x -> x.undo(), STATE);
        Edges.from(() -> {
            VotesUntouched x = Edges.council(2, 2);
            x.mend(0, 0, 3);
            x.undo();
            return x;
        });
        Edges.refused("none any more", x -> x.undo(), STATE);
        VotesUntouched x = Edges.council(2, 2);
        x.mend(0, 0, 3);
        due("one", x.undo(), 0);
        due("it is as it was", x.of(0, 0), 0);
        due("none", x.undo(), STATE);

        Edges.sentence(30, "CHANGES (TOUCH, LIKED of MATTERS for PEOPLE; RUMOUR; telling the same number is none) can be UNDONE, the latest"
            + " first");
        VotesUntouched y = Edges.council(10, 6);
        y.mend(95, 0, 99);
        y.mend(95, 0, 1);
        y.mend(95, 1, -9);
        y.mend(5, 2, 0);
        due("RUMOUR", y.undo(), 3);
        due("RUMOUR", y.of(5, 20), 12);
        due("LIKED", y.undo(), 2);
        due("LIKED", y.of(95, 1), 0);
        due("TOUCH", y.undo(), 1);
        due("TOUCH", y.of(95, 0), 99);
        due("TOUCH", y.undo(), 0);
        due("TOUCH", y.of(95, 0), 0);
        VotesUntouched z = Edges.council(2, 1);
        z.rule(0, 3);
        z.rule(1, 3);
        z.cousins(1);
        z.person(4);
        z.mend(0, 0, 100);
        due("others are no changes", z.undo(), STATE);
    }

    private static void redo() {
        Edges.sentence(31, "DONE AGAIN: how many may still be. STATE: none.");
        Edges.from(Edges::empty);
        Edges.refused("none", x -> x.redo(), STATE);
        Edges.from(Edges::full);
        Edges.refused("none was undone", x -> x.redo(), STATE);
        VotesUntouched x = Edges.council(2, 2);
        x.mend(0, 0, 3);
        due("nothing was undone", x.redo(), STATE);
        x.undo();
        due("one", x.redo(), 0);
        due("it is done", x.of(0, 0), 3);
        due("none", x.redo(), STATE);
        due("it may be undone again", x.undo(), 0);

        Edges.sentence(31, "and DONE AGAIN (as long as no other came behind)");
        VotesUntouched y = Edges.council(2, 2);
        y.mend(0, 0, 1);
        y.mend(0, 1, 2);
        y.mend(0, 2, 3);
        y.undo();
        y.undo();
        y.undo();
        due("the first", y.redo(), 2);
        due("only the first", y.of(0, 0) * 100 + y.of(0, 1) * 20 + y.of(0, 20), 112);
        due("the second", y.redo(), 1);
        due("LIKED", y.of(0, 1), 2);
        y.mend(10, 0, 5);
        due("another came behind", y.redo(), STATE);
        due("the third is not done", y.of(0, 20), 12);
        due("three may be undone", y.count(4), 3);
        due("the other", y.undo(), 2);
        due("it is undone", y.of(10, 0), 0);
        due("it is done again", y.redo(), 0);
        due("it is done", y.of(10, 0), 5);
        y.undo();
        y.mend(10, 0, 100);
        due("a refused one does not come behind", y.redo(), 0);
        y.undo();
        y.rule(0, 4);
        y.person(3);
        y.matter();
        due("nor do others than changes", y.redo(), 0);
        y.undo();
        y.undo();
        y.mend(10, 0, 5);
        due("the same as was undone, told anew, comes behind", y.redo(), STATE);
        due("two may be undone", y.count(4), 2);
    }

    private static void kept() {
        Edges.sentence(30, "40 at most are kept.");
        VotesUntouched x = Edges.council(1, 1);
        for (int i = 1; i <= 39; i++) {
            x.mend(0, 0, i);
        }
        due("39", x.count(4), 39);
        x.mend(0, 0, 40);
        due("40", x.count(4), 40);
        x.mend(0, 0, 41);
        due("41", x.count(4), 40);
        x.mend(0, 0, 42);
        due("42", x.count(4), 40);
        for (int i = 39; i >= 0; i--) {
            due("undo()", x.undo(), i);
            due("the latest first", x.of(0, 0), i + 2);
        }
        due("the oldest two are no more undone", x.undo(), STATE);
        due("the oldest two stay", x.of(0, 0), 2);
        for (int i = 39; i >= 0; i--) {
            due("redo()", x.redo(), i);
            due("in their order", x.of(0, 0), 42 - i);
        }
        due("no more", x.redo(), STATE);
        VotesUntouched each = Edges.council(7, 6);
        for (int i = 0; i < 42; i++) {
            each.mend(i / 6 * 10 + i % 6, i % 2, 1 + i % 9);
        }
        for (int i = 41; i >= 2; i--) {
            due("each in its own place", each.of(i / 6 * 10 + i % 6, i % 2), 1 + i % 9);
            due("undo()", each.undo(), i - 2);
            due("each in its own place", each.of(i / 6 * 10 + i % 6, i % 2), 0);
        }
        due("the oldest stays", each.of(0, 0), 1);
        due("the second oldest stays", each.of(1, 1), 2);
        VotesUntouched y = Edges.council(1, 1);
        for (int i = 1; i <= 40; i++) {
            y.mend(0, 0, i);
        }
        y.undo();
        y.mend(0, 0, 77);
        due("one undone gives its room", y.count(4), 40);
        for (int i = 0; i < 40; i++) {
            y.undo();
        }
        due("so that none is lost", y.of(0, 0), 0);
        Edges.from(Edges::full);
        due("all full", Edges.full().count(4), 40);
        Edges.refused("the same number when 40 are kept", c -> c.mend(0, 0, c.of(0, 0)) - c.of(0, 0), 0);
    }

    private static void sameNumber() {
        Edges.sentence(30, "telling the same number is none");
        Edges.from(Edges::some);
        Edges.refused("TOUCH", x -> x.mend(0, 0, 9), 9);
        Edges.refused("LIKED", x -> x.mend(1, 1, -2), -2);
        Edges.refused("RUMOUR", x -> x.mend(1, 2, 7), 7);
        Edges.refused("RUMOUR at first", x -> x.mend(2, 2, 12), 12);
        Edges.refused("TOUCH at first", x -> x.mend(10, 0, 0), 0);
        Edges.refused("as was undone", x -> x.mend(12, 1, 0), 0);
        VotesUntouched x = Edges.council(1, 1);
        x.mend(0, 0, 0);
        due("none", x.count(4), 0);
        x.mend(0, 0, 1);
        x.mend(0, 0, 1);
        due("one", x.count(4), 1);
        x.undo();
        x.mend(0, 0, 0);
        due("the same as it is when undone does not come behind", x.redo(), 0);
    }
}
