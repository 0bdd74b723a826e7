/** Promises 32 to 41: voters and their acts, shelves, counts; and what is not promised. */
final class WalkOfShelves {
    private static final int BAD = Walk.BAD, FULL = Walk.FULL;
    private static final int LEAST = Walk.LEAST, MOST = Walk.MOST;
    private static final int[] NO_SHELVES = {-1, 6, LEAST, MOST};

    private WalkOfShelves() {
    }

    private static void due(String call, long got, long want) {
        Walk.due(call, got, want);
    }

    static void test() {
        body();
        act();
        trace();
        keep();
        row();
        put();
        element();
        shift();
        taken();
        count();
        notPromised();
    }

    private static void body() {
        Walk.heading("## Promise 32: body `int body(int kind)`:");
        Walk.says("A VOTER of a KIND (0 .. 7) is kept: its number. BAD, FULL.");
        VotesUntouched x = new VotesUntouched();
        for (int kind : new int[] {-1, 8, LEAST, MOST}) {
            due("body(" + kind + ")", x.body(kind), BAD);
        }
        for (int i = 0; i < 50; i++) {
            due("body(" + (49 - i) % 8 + ")", x.body((49 - i) % 8), i);
        }
        due("the 51st", x.body(0), FULL);
        due("of no KIND", x.body(8), BAD);
        due("the last's number and KIND", x.act(49, 0, 1), 50);
    }

    private static void act() {
        Walk.heading("## Promise 33: act `int act(int body, int act, int x)`:");
        Walk.says("An ACT (0 .. 3) of a VOTER with x. 0, and no TRACE then: no such VOTER, ACT.");
        VotesUntouched x = new VotesUntouched();
        x.body(1);
        x.body(6);
        int[] answers = {6, 12, 3, 12 - 1};
        for (int act = 0; act <= 3; act++) {
            due("act(0, " + act + ", 3)", x.act(0, act, 3), answers[act]);
        }
        int[][] none = {{0, 4}, {0, -1}, {2, 0}, {-1, 0}, {50, 3}, {LEAST, 0}, {MOST, 1}, {1, LEAST}, {1, MOST}};
        for (int[] n : none) {
            due("act(1, 3, 3)", x.act(1, 3, 3), 16);
            due("it ran", x.count(6), 5);
            due("act(" + n[0] + ", " + n[1] + ", 3)", x.act(n[0], n[1], 3), 0);
            due("no TRACE", x.trace(0), BAD);
            due("none ran", x.count(6), 0);
        }
    }

    private static void trace() {
        Walk.heading("## Promise 34: trace `int trace(int i)`:");
        Walk.says("THE TRACE's i-th body. BAD.");
        VotesUntouched x = new VotesUntouched();
        x.body(5);
        x.act(0, 3, 0);
        int[] ran = {60, 2, 41, 30, 10, 1, 40, 11};
        for (int i = 0; i < ran.length; i++) {
            due("trace(" + i + ")", x.trace(i), ran[i]);
        }
        for (int i : new int[] {8, 23, 24, -1, LEAST, MOST}) {
            due("trace(" + i + ")", x.trace(i), BAD);
        }
    }

    private static void keep() {
        Walk.heading("## Promise 35: keep `int keep(int shelf, int body)`:");
        Walk.says("A SHELF holds nothing (body -1), or a VOTER: 1. BAD.");
        VotesUntouched x = new VotesUntouched();
        x.body(0);
        x.body(7);
        x.row(5, 0, 3);
        due("keep(5, 1)", x.keep(5, 1), 1);
        due("a HERMIT is there", x.taken(5, 7), 7);
        due("the ROW is not", x.element(5, 0), Long.MIN_VALUE);
        for (int shelf : NO_SHELVES) {
            due("keep(" + shelf + ", 0)", x.keep(shelf, 0), BAD);
            due("keep(" + shelf + ", -1)", x.keep(shelf, -1), BAD);
        }
        for (int body : new int[] {2, -2, 50, LEAST, MOST}) {
            due("keep(5, " + body + ")", x.keep(5, body), BAD);
        }
        due("the HERMIT is still there", x.taken(5, 0), 7);
        due("keep(5, -1)", x.keep(5, -1), 1);
        due("nothing is", x.taken(5, 0), Walk.NOTHING);
        due("nothing is kept on nothing", x.keep(4, -1), 1);
    }

    private static void row() {
        Walk.heading("## Promise 36: row `int row(int shelf, int sort, int n)`:");
        Walk.says("A SHELF holds a ROW: 1. BAD (sort, n above 60); -14.");
        VotesUntouched x = new VotesUntouched();
        x.body(0);
        x.keep(3, 0);
        due("row(3, 2, 60)", x.row(3, 2, 60), 1);
        due("no VOTER is there", x.taken(3, 0), Walk.KIND);
        x.put(3, 1, 9);
        for (int shelf : NO_SHELVES) {
            due("row(" + shelf + ", 0, 1)", x.row(shelf, 0, 1), BAD);
            due("row(" + shelf + ", 0, -1)", x.row(shelf, 0, -1), BAD);
        }
        for (int sort : new int[] {-1, 5, LEAST, MOST}) {
            due("row(3, " + sort + ", 1)", x.row(3, sort, 1), BAD);
            due("row(3, " + sort + ", -1)", x.row(3, sort, -1), BAD);
        }
        due("row(3, 0, 61)", x.row(3, 0, 61), BAD);
        due("row(3, 0, most)", x.row(3, 0, MOST), BAD);
        due("row(3, 0, -1)", x.row(3, 0, -1), Walk.SIZE);
        due("row(3, 0, least)", x.row(3, 0, LEAST), Walk.SIZE);
        due("the ROW is still there", x.element(3, 1), 9);
        due("a new ROW", x.row(3, 2, 60), 1);
        due("has 0", x.element(3, 1), 0);
        due("row(3, 2, 0)", x.row(3, 2, 0), 1);
        due("of no element", x.element(3, 0), Long.MIN_VALUE);
    }

    private static void put() {
        Walk.heading("## Promise 37: put `int put(int shelf, int i, long v)`:");
        Walk.says("Element i of a ROW becomes v: 1. BAD, -11, -12, -13.");
        VotesUntouched x = new VotesUntouched();
        x.body(0);
        x.keep(1, 0);
        x.row(2, 3, 4);
        due("put(2, 0, -5)", x.put(2, 0, -5), 1);
        due("put(2, 3, most)", x.put(2, 3, Long.MAX_VALUE), 1);
        due("element(2, 0)", x.element(2, 0), -5);
        due("element(2, 3)", x.element(2, 3), Long.MAX_VALUE);
        due("element(2, 1)", x.element(2, 1), 0);
        for (int i : new int[] {0, 4, -1, LEAST, MOST}) {
            for (int shelf : NO_SHELVES) {
                due("put(" + shelf + ", " + i + ", 1)", x.put(shelf, i, 1), BAD);
            }
            due("nothing", x.put(0, i, 1), Walk.NOTHING);
            due("a VOTER", x.put(1, i, 1), Walk.KIND);
            due("a place", x.put(2, i, 1), i == 0 ? 1 : Walk.PLACE);
        }
    }

    private static void element() {
        Walk.heading("## Promise 38: element `long element(int shelf, int i)`:");
        Walk.says("Element i of a ROW; Long.MIN_VALUE: BAD, -11 to -13.");
        VotesUntouched x = new VotesUntouched();
        x.body(0);
        x.keep(1, 0);
        for (int sort = 0; sort <= 4; sort++) {
            Walk.row(x, 2, sort, 3, -1, 1000);
            long[] kept = sort == 4 ? new long[] {1, 1, 1} : new long[] {3, -1, sort == 0 ? (byte) 1000 : 1000};
            for (int i = 0; i < 3; i++) {
                due("element(2, " + i + ") of sort " + sort, x.element(2, i), kept[i]);
            }
            for (int i : new int[] {3, 59, 60, -1, LEAST, MOST}) {
                due("element(2, " + i + ")", x.element(2, i), Long.MIN_VALUE);
            }
        }
        due("nothing", x.element(0, 0), Long.MIN_VALUE);
        due("a VOTER", x.element(1, 0), Long.MIN_VALUE);
        for (int shelf : NO_SHELVES) {
            due("element(" + shelf + ", 0)", x.element(shelf, 0), Long.MIN_VALUE);
        }
    }

    private static void dueElements(VotesUntouched x, int shelf, long... want) {
        for (int i = 0; i < want.length; i++) {
            due("element(" + shelf + ", " + i + ")", x.element(shelf, i), want[i]);
        }
    }

    private static void shift() {
        Walk.heading("## Promise 39: shift `int shift(int shelf, int i, int other, int j, int n)`:");
        Walk.says("n elements of a ROW from i on come to another one (or the same) from j on, as they all were before: n.");
        VotesUntouched x = new VotesUntouched();
        Walk.row(x, 0, 2, 1, 2, 3, 4, 5);
        Walk.row(x, 1, 2, 10, 20, 30);
        due("shift(0, 3, 1, 1, 2)", x.shift(0, 3, 1, 1, 2), 2);
        dueElements(x, 0, 1, 2, 3, 4, 5);
        dueElements(x, 1, 10, 4, 5);
        due("up", x.shift(0, 0, 0, 1, 4), 4);
        dueElements(x, 0, 1, 1, 2, 3, 4);
        due("down", x.shift(0, 1, 0, 0, 4), 4);
        dueElements(x, 0, 1, 2, 3, 4, 4);
        due("all upon themselves", x.shift(0, 0, 0, 0, 5), 5);
        due("none behind the last", x.shift(0, 5, 1, 3, 0), 0);
        dueElements(x, 0, 1, 2, 3, 4, 4);
        for (int sort = 0; sort <= 4; sort++) {
            Walk.row(x, 2, sort, 1, 0, 1);
            Walk.row(x, 3, sort, 0, 0);
            due("of sort " + sort, x.shift(2, 1, 3, 0, 2), 2);
            dueElements(x, 3, 0, 1);
        }

        Walk.says("BAD, -11 (either), -12 (no ROWS, or of unlike sorts), -13.");
        VotesUntouched y = new VotesUntouched();
        y.body(0);
        y.keep(1, 0);
        Walk.row(y, 2, 2, 1, 2, 3);
        Walk.row(y, 3, 3, 4, 5, 6);
        Walk.row(y, 4, 2, 7, 8);
        for (int shelf : NO_SHELVES) {
            due("from " + shelf, y.shift(shelf, 0, 2, 0, 1), BAD);
            due("to " + shelf, y.shift(2, 0, shelf, 0, 1), BAD);
        }
        int[][] refused = {{0, 0, 2, 0, 1, -11}, {2, 0, 0, 0, 1, -11}, {0, 0, 0, 0, 0, -11}, {0, 0, 1, 9, 1, -11}, {1, 9, 0, 0, 1, -11},
            {1, 0, 2, 0, 1, -12}, {2, 0, 1, 0, 1, -12}, {1, 0, 1, 0, 1, -12}, {2, 0, 3, 0, 1, -12}, {3, 9, 2, -1, 9, -12},
            {2, -1, 4, 0, 1, -13}, {2, 0, 4, -1, 1, -13}, {2, 2, 4, 0, 2, -13}, {2, 0, 4, 1, 2, -13}, {2, 0, 4, 0, 3, -13},
            {2, 4, 4, 0, 0, -13}, {2, 0, 4, 3, 0, -13}, {2, 0, 4, 0, -1, -13}, {2, MOST, 4, 0, 1, -13}, {2, 1, 4, 0, MOST, -13},
            {2, LEAST, 4, LEAST, LEAST, -13}, {2, 0, 2, 1, 3, -13}};
        for (int[] r : refused) {
            due("shift(" + r[0] + ", " + r[1] + ", " + r[2] + ", " + r[3] + ", " + r[4] + ")", y.shift(r[0], r[1], r[2], r[3], r[4]), r[5]);
        }
        dueElements(y, 2, 1, 2, 3);
        dueElements(y, 3, 4, 5, 6);
        dueElements(y, 4, 7, 8);
    }

    private static void taken() {
        Walk.heading("## Promise 40: taken `int taken(int shelf, int k)`:");
        Walk.says("What a SHELF holds, taken for a VOTER of KIND k (0 .. 7), or under it: its KIND. BAD, -11, -12.");
        VotesUntouched x = new VotesUntouched();
        for (int kind = 0; kind < 8; kind++) {
            x.body(kind);
        }
        x.keep(1, 7);
        int[] as = {7, 7, -12, -12, 7, -12, -12, 7};
        for (int k = 0; k < 8; k++) {
            due("a HERMIT as " + k, x.taken(1, k), as[k]);
            due("nothing as " + k, x.taken(0, k), -11);
        }
        x.keep(1, 1);
        due("a FREE as a MAYOR", x.taken(1, 4), -12);
        x.row(2, 0, 4);
        due("a ROW", x.taken(2, 0), -12);
        for (int shelf : NO_SHELVES) {
            due("taken(" + shelf + ", 0)", x.taken(shelf, 0), BAD);
        }
        for (int k : new int[] {-1, 8, LEAST, MOST}) {
            for (int shelf = 0; shelf <= 2; shelf++) {
                due("taken(" + shelf + ", " + k + ")", x.taken(shelf, k), BAD);
            }
        }
    }

    private static void count() {
        Walk.heading("## Promise 41: count `int count(int what)`:");
        Walk.says("How many: 0 PEOPLE, 1 MATTERS, 2 pairs of COUSINS, 3 bytes on THE TAPE, 4 changes that may be UNDONE, 5 BODIES, 6"
            + " bodies that ran in the latest act() (all, kept or not). BAD.");
        VotesUntouched x = Walk.council(7, 6);
        for (int pair : new int[] {1, 12, 23, 34, 45}) {
            x.cousins(pair);
        }
        for (int i = 0; i < 4; i++) {
            x.feed('1');
        }
        for (int i = 1; i <= 3; i++) {
            x.mend(0, 0, i);
        }
        x.undo();
        for (int i = 0; i < 8; i++) {
            x.body(7);
        }
        x.act(0, 3, 0);
        int[] counts = {7, 6, 5, 4, 2, 8, 14};
        for (int what = 0; what <= 6; what++) {
            due("count(" + what + ")", x.count(what), counts[what]);
        }
        for (int what : new int[] {-1, 7, LEAST, MOST}) {
            due("count(" + what + ")", x.count(what), BAD);
        }
    }

    private static void notPromised() {
        Walk.heading("## Not promised How the state is held inside the object is free, as are the speed of each call, the text of"
            + " toString and the behaviour of equals and hashCode. Use of one object from several threads at once is not promised"
            + " to be safe. Nothing is promised beyond the answers and state changes described above, and nothing about an object"
            + " after its 512th call.");
    }
}
