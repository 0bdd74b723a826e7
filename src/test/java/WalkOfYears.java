/** Promises 24 to 31: years, votes in deed, the image, changes. */
final class WalkOfYears {
    private static final int BAD = Walk.BAD, NOT = Walk.NOT, STATE = Walk.STATE;
    private static final int LEAST = Walk.LEAST, MOST = Walk.MOST;

    private WalkOfYears() {
    }

    private static void due(String call, long got, long want) {
        Walk.due(call, got, want);
    }

    static void test() {
        judge();
        must();
        decide();
        led();
        imageAndBack();
        undoAndRedo();
    }

    /** Two people, of whom 0 is touched by matter 0 and likes matter 1; on shelf 1 a voter, on 2 no row of shorts. */
    private static VotesUntouched some() {
        VotesUntouched x = Walk.paid(2, 4, 6);
        x.mend(0, 0, 1);
        x.mend(1, 1, 1);
        x.body(0);
        x.keep(1, 0);
        return x;
    }

    private static void judge() {
        Walk.heading("## Promise 24: judge `int judge(int shelf)`:");
        Walk.says("JUDGED. BAD, -11, -12 (no ROW of shorts); NOT.");
        VotesUntouched x = some();
        for (int shelf : new int[] {-1, 6, LEAST, MOST}) {
            due("judge(" + shelf + ")", x.judge(shelf), BAD);
        }
        due("nothing", x.judge(0), Walk.NOTHING);
        due("a VOTER", x.judge(1), Walk.KIND);
        for (int sort = 0; sort <= 4; sort++) {
            due("a ROW of sort " + sort, Walk.row(x, 2, sort, 1, 1).judge(2), sort == 1 ? NOT : Walk.KIND);
        }
        due("the third two", Walk.row(x, 5, 1, 1, 1, 2, 0, 3, 0, 2, 1).judge(5), 2);
        due("the first two", Walk.row(x, 5, 1, 2, 1, 1, 1).judge(5), 0);
        due("none", Walk.row(x, 5, 1, 3, 1, 2, 0).judge(5), NOT);
        Walk.law(x, "1");
        due("by THE LAW", x.judge(5), 0);
    }

    private static void must() {
        Walk.heading("## Promise 25: must `int must(int shelf, int pm)`:");
        Walk.says("MUST. BAD, -11, -12.");
        VotesUntouched x = some();
        for (int shelf : new int[] {-1, 6, LEAST, MOST}) {
            due("must(" + shelf + ", 0)", x.must(shelf, 0), BAD);
        }
        Walk.row(x, 5, 1, 3, 3, 2, 2, 2, 0);
        for (int pm : new int[] {-1, 2, 12, 20, 100, LEAST, MOST}) {
            due("must(5, " + pm + ")", x.must(5, pm), BAD);
            due("must(0, " + pm + ")", x.must(0, pm), BAD);
        }
        due("nothing", x.must(0, 0), Walk.NOTHING);
        due("a VOTER", x.must(1, 0), Walk.KIND);
        due("a ROW of ints", Walk.row(x, 2, 2, 1, 1).must(2, 0), Walk.KIND);
        due("0 voted on 1 without 0", x.must(5, 0), 1);
        due("1 too, later", x.must(5, 10), 1);
        due("1 was silent on 1 alone", x.must(5, 11), 1);
        due("0 was not", x.must(5, 1), 0);
    }

    private static void decide() {
        Walk.heading("## Promise 26: decide `int decide(int bundle, int gifts)`:");
        Walk.says("A BUNDLE with GIFTS is put to the vote in deed: CARRIED (1, 0). BAD; STATE: one of its MATTERS is DECIDED.");
        VotesUntouched x = some();
        for (int bundle : new int[] {0, 4, -1, LEAST, MOST}) {
            due("decide(" + bundle + ", 0)", x.decide(bundle, 0), BAD);
        }
        for (int gifts : new int[] {4, -1, LEAST, MOST}) {
            due("decide(1, " + gifts + ")", x.decide(1, gifts), BAD);
        }
        due("with a gift to 0", x.decide(2, 1), 0);
        due("with a gift to 1", x.decide(2, 2), 1);
        due("it is DECIDED", x.decide(2, 0), STATE);
        due("and with 0", x.decide(3, 0), STATE);
        due("BAD ahead of STATE", x.decide(2, 4), BAD);
        due("0 alone", x.decide(1, 0), 0);
        due("FEES: of the two put", x.led(4), 10);
    }

    private static void led() {
        Walk.heading("## Promise 27: led `int led(int what)`:");
        Walk.says("LED: the latest BUNDLE (what 0), its GIFTS (1), whether it was CARRIED (2); DECIDED (3), FEES so far (4). BAD;"
            + " STATE (0 to 2): none was put.");
        VotesUntouched x = some();
        int[][] told = {{STATE, STATE, STATE, 0, 0}, {3, 3, 0, 0, 10}, {2, 2, 1, 2, 16}, {1, 0, 0, 2, 16}};
        for (int i = 0; i < told.length; i++) {
            if (i > 0) {
                due("decide", x.decide(told[i][0], told[i][1]), told[i][2]);
            }
            for (int what = 0; what <= 4; what++) {
                due("led(" + what + ")", x.led(what), told[i][what]);
            }
            for (int what : new int[] {-1, 5, LEAST, MOST}) {
                due("led(" + what + ")", x.led(what), BAD);
            }
        }
    }

    private static void imageAndBack() {
        Walk.heading("## Promise 28: image `int image()`:");
        Walk.says("AN IMAGE is kept: DECIDED.");
        VotesUntouched x = some();
        due("of nothing", x.image(), 0);
        x.decide(2, 2);
        due("of a vote", x.image(), 2);
        due("it stays so", x.led(3), 2);

        Walk.heading("## Promise 29: back `int back()`:");
        Walk.says("What LED tells is as in THE IMAGE: DECIDED. STATE: there is none.");
        VotesUntouched y = some();
        y.decide(1, 1);
        due("there is none", y.back(), STATE);
        due("LED is as it was", y.led(4), 4);
        VotesUntouched z = some();
        z.image();
        z.decide(2, 2);
        due("to none", z.back(), 0);
        for (int what = 0; what <= 4; what++) {
            due("led(" + what + ")", z.led(what), what < 3 ? STATE : 0);
        }
        due("again", z.decide(2, 2), 1);
        z.image();
        z.decide(1, 3);
        for (int i = 0; i < 2; i++) {
            due("to the latest image", z.back(), 2);
            int[] told = {2, 2, 1, 2, 6};
            for (int what = 0; what <= 4; what++) {
                due("led(" + what + ")", z.led(what), told[what]);
            }
            due("it is DECIDED", z.decide(3, 0), STATE);
            due("once more", z.decide(1, 0), 0);
        }
    }

    private static void undoAndRedo() {
        Walk.heading("## Promise 30: undo `int undo()`:");
        Walk.says("UNDONE: how many may still be. STATE: none.");
        VotesUntouched x = Walk.council(1, 1);
        due("none", x.undo(), STATE);
        x.mend(0, 0, 5);
        x.mend(0, 2, 5);
        due("the second", x.undo(), 1);
        due("RUMOUR", x.of(0, 20), 12);
        due("TOUCH", x.of(0, 0), 5);
        due("the first", x.undo(), 0);
        due("TOUCH", x.of(0, 0), 0);
        due("none", x.undo(), STATE);

        Walk.heading("## Promise 31: redo `int redo()`:");
        Walk.says("DONE AGAIN: how many may still be. STATE: none.");
        due("the first", x.redo(), 1);
        due("TOUCH", x.of(0, 0), 5);
        due("RUMOUR", x.of(0, 20), 12);
        due("the second", x.redo(), 0);
        due("RUMOUR", x.of(0, 20), 5);
        due("none", x.redo(), STATE);
        x.undo();
        x.undo();
        x.mend(0, 1, 2);
        due("another came behind", x.redo(), STATE);
        due("it may be undone", x.count(4), 1);
        due("none of a new object", new VotesUntouched().redo(), STATE);
    }
}
