/** Edges of promises 32 to 41: voters and their acts, shelves, counts. */
final class EdgesOfActs {
    private static final int BAD = Edges.BAD, FULL = Edges.FULL;
    private static final int LEAST = Edges.LEAST, MOST = Edges.MOST;
    private static final int BYTES = 0, SHORTS = 1, INTS = 2, LONGS = 3, BOOLEANS = 4;
    private static final int[] NO_SHELVES = {-1, 6, 7, LEAST, MOST};
    private static final long NONE = Long.MIN_VALUE;

    private EdgesOfActs() {
    }

    static void test() {
        body();
        act();
        wrapping();
        trace();
        keep();
        row();
        put();
        lowestBits();
        element();
        shift();
        shiftPlaces();
        shiftWithin();
        taken();
        count();
    }

    private static void due(String call, long got, long want) {
        Edges.due(call, got, want);
    }

    // ---- promise 32

    private static void body() {
        Edges.sentence(32, "BODIES 0 .. 49, of KINDS: 0 VOTER");
        VotesUntouched x = new VotesUntouched();
        for (int i = 0; i <= 49; i++) {
            due("body", x.body(i % 8), i);
            due("count(5)", x.count(5), i + 1);
        }
        due("the 51st", x.body(0), FULL);
        due("the first is one", x.keep(0, 0), 1);
        due("the last is one", x.keep(0, 49), 1);
        due("its KIND", x.taken(0, 1), 1);
        due("the 51st is none", x.keep(0, 50), BAD);

        Edges.sentence(32, "A VOTER of a KIND (0 .. 7) is kept: its number. BAD, FULL.");
        for (Edges.Start start : new Edges.Start[] {Edges::empty, Edges::some, Edges::full}) {
            Edges.from(start);
            for (int kind : new int[] {-1, 8, 9, LEAST, MOST}) {
                Edges.refused("body(" + kind + ")", c -> c.body(kind), BAD);
            }
        }
        Edges.from(Edges::full);
        for (int kind = 0; kind <= 7; kind++) {
            int k = kind;
            Edges.refused("the 51st: body(" + k + ")", c -> c.body(k), FULL);
        }
    }

    // ---- promises 33 and 34

    /** Refused acts leave no trace; all else is as it was. */
    private static void noAct(Edges.Start start, int body, int act) {
        String call = "act(" + body + ", " + act + ", 5)";
        VotesUntouched x = start.made();
        due(call, x.act(body, act, 5), 0);
        due(call + ": count(6)", x.count(6), 0);
        for (int i = 0; i < 24; i++) {
            due(call + ": trace(" + i + ")", x.trace(i), BAD);
        }
        Edges.from(() -> {
            VotesUntouched begun = start.made();
            begun.act(-1, 0, 0);
            return begun;
        });
        Edges.refused(call, c -> c.act(body, act, 5), 0);
    }

    private static void act() {
        Edges.sentence(33, "An ACT (0 .. 3) of a VOTER with x. 0, and no TRACE then: no such VOTER, ACT.");
        for (int body : new int[] {-1, 8, 49, 50, LEAST, MOST}) {
            noAct(Edges::some, body, 0);
            noAct(Edges::some, body, 3);
        }
        for (int act : new int[] {-1, 4, 5, 60, LEAST, MOST}) {
            noAct(Edges::some, 0, act);
            noAct(Edges::full, 49, act);
        }
        noAct(Edges::empty, 0, 0);
        noAct(Edges::full, 50, 0);
        VotesUntouched x = Edges.full();
        due("the last VOTER, of KIND 1: 0", x.act(49, 0, 5), 5 + 49 + 3);
        due("ran", x.count(6), 2);
        due("the last ACT of the last VOTER", x.act(49, 3, 5), (5 + 49 + 3) * 2 - (1 ^ 49));
        due("ran", x.count(6), 5);
        Edges.from(() -> {
            VotesUntouched begun = Edges.some();
            begun.act(0, 3, 4);
            return begun;
        });
        Edges.asked("the same act leaves the same", c -> c.act(0, 3, 4), 0 - 1 + tellsOfHermit(4, 0));
    }

    /** What body 2 answers to a HERMIT of number n: 80's owning less 50's giving. */
    private static int tellsOfHermit(int x, int n) {
        int given = (2 ^ n) - (2 + n + 3);
        return (x + n + 3) * 2 + given - ((1 ^ n) - (2 + n + 3));
    }

    private static void wrapping() {
        Edges.sentence(33, "ACTS with x (an int that wraps): 0 votes, 1 owns, 2 gives, 3 tells; n its number.");
        VotesUntouched x = new VotesUntouched();
        for (int kind = 0; kind <= 7; kind++) {
            x.body(kind);
        }
        for (int v : new int[] {MOST, MOST - 1, LEAST, LEAST + 1, 1 << 30, -(1 << 30), -1, 0}) {
            due("1 votes", x.act(0, 0, v), v);
            due("20 votes", x.act(1, 0, v), v + 1 + 3);
            due("20 votes of a MAYOR", x.act(4, 0, v), v + 4 + 3);
            due("70 votes", x.act(6, 0, v), (v + 6) * 2);
            due("10 owns", x.act(0, 1, v), v * 2);
            due("30 owns", x.act(2, 1, v), -((v + 2) * 2));
            due("41 owns", x.act(3, 1, v), -((v + 1 + 3) * 2));
            due("41 owns of a SILENT", x.act(5, 1, v), -((v + 1 + 5) * 2));
            due("80 owns", x.act(7, 1, v), (v + 7 + 3) * 2 + ((2 ^ 7) - (2 + 7 + 3)));
            due("11 gives", x.act(1, 2, v), v ^ 1);
            due("40 gives", x.act(3, 2, v), (v ^ 3) * 3);
            due("50 gives", x.act(4, 2, v), (v ^ 4) - (2 + 4 + 3));
            due("2 tells", x.act(2, 3, v), -((v + 2) * 2) - (1 ^ 2));
            due("60 tells", x.act(5, 3, v), -((v + 1 + 5) * 2) - (1 ^ 5) * 3 ^ 5);
            due("81 tells", x.act(7, 3, v), tellsOfHermit(v, 7) - 1);
        }
        due("it wraps", x.act(1, 0, MOST), LEAST + 3);
        due("it wraps", x.act(0, 1, 1 << 30), LEAST);
        due("it wraps to 0", x.act(0, 1, LEAST), 0);
    }

    private static void trace() {
        Edges.sentence(34, "THE TRACE: numbers of the bodies that ran in the latest act(), as they began; the first 24 are kept.");
        VotesUntouched x = new VotesUntouched();
        due("none yet", x.trace(0), BAD);
        x.body(0);
        x.body(7);
        x.act(0, 0, 1);
        due("the shortest", x.trace(0), 1);
        due("behind it", x.trace(1), BAD);
        x.act(1, 3, 1);
        int[] longest = {81, 2, 80, 10, 20, 1, 50, 11, 20, 1, 50, 11, 20, 1};
        for (int i = 0; i < 24; i++) {
            due("the longest: trace(" + i + ")", x.trace(i), i < longest.length ? longest[i] : BAD);
        }
        due("all that ran", x.count(6), 14);
        x.act(0, 3, 1);
        due("only the latest", x.trace(0) * 1000 + x.trace(3), 2011);
        due("nothing of the one ahead", x.trace(4), BAD);
        due("all that ran", x.count(6), 4);

        Edges.sentence(34, "THE TRACE's i-th body. BAD.");
        Edges.from(Edges::some);
        for (int i : new int[] {-1, 14, 23, 24, 25, LEAST, MOST}) {
            Edges.refused("trace(" + i + ")", c -> c.trace(i), BAD);
        }
        Edges.asked("trace(0)", c -> c.trace(0), 81);
        Edges.asked("trace(13)", c -> c.trace(13), 1);
        Edges.from(Edges::empty);
        Edges.refused("nothing ran", c -> c.trace(0), BAD);
    }

    // ---- promise 35

    private static void keep() {
        Edges.sentence(35, "A SHELF holds nothing (body -1), or a VOTER: 1. BAD.");
        Edges.from(Edges::some);
        for (int shelf : NO_SHELVES) {
            Edges.refused("keep(" + shelf + ", 0)", x -> x.keep(shelf, 0), BAD);
            Edges.refused("keep(" + shelf + ", -1)", x -> x.keep(shelf, -1), BAD);
        }
        for (int body : new int[] {-2, 8, 49, 50, LEAST, MOST}) {
            for (int shelf : new int[] {0, 4, 5}) {
                Edges.refused("keep(" + shelf + ", " + body + ")", x -> x.keep(shelf, body), BAD);
            }
        }
        Edges.asked("nothing where nothing is", x -> x.keep(5, -1), 1);
        Edges.from(Edges::empty);
        Edges.refused("no VOTER yet", x -> x.keep(0, 0), BAD);
        VotesUntouched x = Edges.some();
        for (int shelf = 0; shelf <= 5; shelf++) {
            due("the last VOTER", x.keep(shelf, 7), 1);
            due("it is there", x.taken(shelf, 0), 0);
            due("the first in its place", x.keep(shelf, 0), 1);
            due("it is there", x.taken(shelf, 0), 7);
            due("its neighbour", x.element(shelf, 0), NONE);
        }
        for (int shelf = 0; shelf <= 5; shelf++) {
            due("nothing in its place", x.keep(shelf, -1), 1);
            due("nothing is there", x.taken(shelf, 0), -11);
            due("the next is as it was", x.taken((shelf + 1) % 6, 0), shelf == 5 ? -11 : 7);
        }
        due("VOTERS are as many", x.count(5), 8);

        Edges.sentence(35, "SHELVES 0 .. 5 each hold nothing (at first), a VOTER (a BODY), or a ROW");
        VotesUntouched y = new VotesUntouched();
        for (int shelf = 0; shelf <= 5; shelf++) {
            due("nothing at first", y.taken(shelf, 0), -11);
            due("nothing at first", y.put(shelf, 0, 1), -11);
            due("nothing at first", y.shift(shelf, 0, shelf, 0, 0), -11);
        }
        y.body(5);
        for (int shelf = 0; shelf <= 5; shelf++) {
            due("a ROW", y.row(shelf, LONGS, 60), 1);
            due("is a ROW", y.put(shelf, 59, shelf), 1);
        }
        for (int shelf = 0; shelf <= 5; shelf++) {
            due("each its own", y.element(shelf, 59), shelf);
            due("a VOTER in the ROW's place", y.keep(shelf, 0), 1);
            due("is no ROW", y.put(shelf, 0, 1), -12);
            due("a ROW in the VOTER's place", y.row(shelf, LONGS, 1), 1);
            due("is no VOTER", y.taken(shelf, 0), -12);
            due("is new", y.element(shelf, 0), 0);
            due("is short", y.put(shelf, 1, 1), -13);
        }
    }

    // ---- promise 36

    private static void row() {
        Edges.sentence(36, "A SHELF holds a ROW: 1. BAD (sort, n above 60); -14.");
        Edges.from(Edges::some);
        for (int shelf : NO_SHELVES) {
            Edges.refused("row(" + shelf + ", 0, 1)", x -> x.row(shelf, 0, 1), BAD);
            Edges.refused("row(" + shelf + ", 0, -1)", x -> x.row(shelf, 0, -1), BAD);
        }
        for (int sort : new int[] {-1, 5, 6, LEAST, MOST}) {
            Edges.refused("row(0, " + sort + ", 1)", x -> x.row(0, sort, 1), BAD);
            Edges.refused("row(0, " + sort + ", -1)", x -> x.row(0, sort, -1), BAD);
            Edges.refused("row(0, " + sort + ", 61)", x -> x.row(0, sort, 61), BAD);
        }
        for (int sort = 0; sort <= 4; sort++) {
            int s = sort;
            Edges.refused("n 61", x -> x.row(0, s, 61), BAD);
            Edges.refused("n most", x -> x.row(5, s, MOST), BAD);
            Edges.refused("n -1", x -> x.row(0, s, -1), -14);
            Edges.refused("n least", x -> x.row(5, s, LEAST), -14);
            Edges.refused("n -1 where a VOTER is", x -> x.row(4, s, -1), -14);
        }

        Edges.sentence(36, "or a ROW: of 0 bytes, 1 shorts, 2 ints, 3 longs, 4 booleans, of 0 .. 60 elements, 0 at first (false)");
        for (int sort = 0; sort <= 4; sort++) {
            VotesUntouched x = new VotesUntouched();
            due("of none", x.row(0, sort, 0), 1);
            due("it has none", x.element(0, 0), NONE);
            due("of one", x.row(5, sort, 1), 1);
            due("it has one", x.element(5, 0), 0);
            due("no more", x.element(5, 1), NONE);
            due("of sixty", x.row(1, sort, 60), 1);
            for (int i = 0; i < 60; i++) {
                due("0 at first", x.element(1, i), 0);
                x.put(1, i, -1);
            }
            due("no more", x.element(1, 60), NONE);
            due("anew, shorter", x.row(1, sort, 59), 1);
            due("no more", x.element(1, 59), NONE);
            due("anew", x.row(1, (sort + 1) % 5, 60), 1);
            for (int i = 0; i < 60; i++) {
                due("0 at first again", x.element(1, i), 0);
            }
            due("its neighbours are as they were", x.element(5, 0), 0);
        }
    }

    // ---- promises 37 and 38

    private static void put() {
        Edges.sentence(37, "Element i of a ROW becomes v: 1. BAD, -11, -12, -13.");
        Edges.from(Edges::some);
        for (int shelf : NO_SHELVES) {
            Edges.refused("put(" + shelf + ", 0, 1)", x -> x.put(shelf, 0, 1), BAD);
        }
        Edges.refused("nothing there", x -> x.put(5, 0, 1), -11);
        Edges.refused("a VOTER", x -> x.put(4, 0, 1), -12);
        int[] lengths = {6, 5, 3, 2};
        for (int s = 0; s < 4; s++) {
            int shelf = s;
            for (int i : new int[] {-1, lengths[s], 59, 60, LEAST, MOST}) {
                Edges.refused("put(" + shelf + ", " + i + ", 1)", x -> x.put(shelf, i, 1), -13);
            }
            VotesUntouched x = Edges.some();
            due("the last", x.put(shelf, lengths[s] - 1, 77), 1);
            due("the first", x.put(shelf, 0, 78), 1);
            due("the last", x.element(shelf, lengths[s] - 1), 77);
            due("the first", x.element(shelf, 0), 78);
        }
        VotesUntouched y = new VotesUntouched();
        y.row(0, BYTES, 0);
        due("a ROW of none", y.put(0, 0, 1), -13);
        y.row(0, BYTES, 60);
        y.row(1, BYTES, 60);
        due("the longest", y.put(0, 59, 1), 1);
        due("behind it", y.put(0, 60, 1), -13);
        due("the next shelf is as it was", y.element(1, 0), 0);
    }

    private static void lowestBits() {
        Edges.sentence(37, "what is put in keeps its lowest bits (a boolean: whether it is not 0; 1 or 0).");
        long[] values = {
            0, 1, -1, 127, 128, -128, -129, 255, 256, 32767, 32768, -32768, -32769, 65535, 65536, (1L << 31) - 1, 1L << 31, -(1L << 31),
            -(1L << 31) - 1, (1L << 32) - 1, 1L << 32, Long.MAX_VALUE, Long.MIN_VALUE, Long.MIN_VALUE + 1,
        };
        VotesUntouched x = new VotesUntouched();
        for (int sort = 0; sort <= 4; sort++) {
            x.row(sort, sort, 1);
            for (long v : values) {
                int bits = 8 << sort;
                long low = sort >= LONGS ? v : v << 64 - bits >> 64 - bits;
                due("put(" + sort + ", 0, " + v + ")", x.put(sort, 0, v), 1);
                due("element(" + sort + ", 0)", x.element(sort, 0), sort == BOOLEANS ? v == 0 ? 0 : 1 : low);
            }
        }
        due("put of the least long in a ROW of longs", x.put(3, 0, Long.MIN_VALUE), 1);
        due("a byte 128", x.put(0, 0, 128) * 1000 + x.element(0, 0), 1000 - 128);
        due("a byte 384", x.put(0, 0, 384) * 1000 + x.element(0, 0), 1000 - 128);
        due("a short 98304", x.put(1, 0, 98304) * 100000 + x.element(1, 0), 100000 - 32768);
        due("an int", x.put(2, 0, 3L << 31) + x.element(2, 0), 1 + LEAST);
        due("a boolean 256", x.put(4, 0, 256) + x.element(4, 0), 2);
        due("a boolean by its highest bit", x.put(4, 0, Long.MIN_VALUE) + x.element(4, 0), 2);
        due("a boolean 0", x.put(4, 0, 0) + x.element(4, 0), 1);
    }

    private static void element() {
        Edges.sentence(38, "Element i of a ROW; Long.MIN_VALUE: BAD, -11 to -13.");
        Edges.from(Edges::some);
        for (int shelf : NO_SHELVES) {
            Edges.refused("element(" + shelf + ", 0)", x -> x.element(shelf, 0), NONE);
        }
        Edges.refused("nothing there", x -> x.element(5, 0), NONE);
        Edges.refused("a VOTER", x -> x.element(4, 0), NONE);
        for (int i : new int[] {-1, 6, 59, 60, LEAST, MOST}) {
            Edges.refused("element(0, " + i + ")", x -> x.element(0, i), NONE);
        }
        Edges.asked("the first", x -> x.element(0, 0), 5);
        Edges.asked("the last", x -> x.element(0, 5), -1);
        Edges.asked("a long", x -> x.element(3, 0), 1L << 40);
        VotesUntouched y = new VotesUntouched();
        y.row(5, LONGS, 60);
        due("the last of the last", y.put(5, 59, Long.MAX_VALUE), 1);
        due("the last of the last", y.element(5, 59), Long.MAX_VALUE);
    }

    // ---- promise 39

    private static void shift() {
        Edges.sentence(39, "BAD, -11 (either), -12 (no ROWS, or of unlike sorts), -13.");
        Edges.from(Edges::some);
        for (int shelf : NO_SHELVES) {
            Edges.refused("shift(" + shelf + ", 0, 0, 0, 1)", x -> x.shift(shelf, 0, 0, 0, 1), BAD);
            Edges.refused("shift(0, 0, " + shelf + ", 0, 1)", x -> x.shift(0, 0, shelf, 0, 1), BAD);
            Edges.refused("shift(" + shelf + ", 0, 5, 0, 0)", x -> x.shift(shelf, 0, 5, 0, 0), BAD);
        }
        for (int shelf = 0; shelf <= 4; shelf++) {
            int s = shelf;
            Edges.refused("nothing to shift from", x -> x.shift(5, 0, s, 0, 0), -11);
            Edges.refused("nothing to shift to", x -> x.shift(s, 0, 5, 0, 0), -11);
            Edges.refused("a VOTER to shift from", x -> x.shift(4, 0, s, 0, 0), -12);
            Edges.refused("a VOTER to shift to", x -> x.shift(s, 0, 4, 0, 0), -12);
            for (int other = 0; other <= 4; other++) {
                int o = other;
                if (o != s) {
                    Edges.refused("unlike sorts", x -> x.shift(s, 0, o, 0, 1), -12);
                    Edges.refused("unlike sorts, none of them", x -> x.shift(s, 0, o, 0, 0), -12);
                }
            }
        }
        Edges.refused("nothing on either", x -> x.shift(5, 0, 5, 0, 0), -11);
        VotesUntouched y = new VotesUntouched();
        Edges.row(y, 0, BOOLEANS, 1, 0);
        Edges.row(y, 1, BYTES, 1, 0);
        due("booleans to bytes", y.shift(0, 0, 1, 0, 1), -12);
        due("bytes to booleans", y.shift(1, 0, 0, 0, 1), -12);
        Edges.row(y, 5, BOOLEANS, 0, 0);
        due("booleans to booleans", y.shift(0, 0, 5, 1, 1), 1);
        due("it came", y.element(5, 1), 1);
    }

    private static VotesUntouched withLongs() {
        VotesUntouched x = new VotesUntouched();
        Edges.row(x, 0, LONGS, 1, 2, 3, 4, 5);
        Edges.row(x, 1, LONGS, 6, 7, 8);
        x.row(2, LONGS, 0);
        return x;
    }

    private static void shiftPlaces() {
        Edges.sentence(39, "n elements of a ROW from i on come to another one (or the same) from j on, as they all were before: n.");
        Edges.from(EdgesOfActs::withLongs);
        int[][] out = {
            {-1, 0, 1}, {0, -1, 1}, {5, 0, 1}, {0, 3, 1}, {3, 0, 3}, {0, 1, 3}, {0, 0, 4}, {0, 0, 6}, {0, 0, -1}, {2, 2, -1}, {6, 0, 0},
            {0, 4, 0}, {-1, 0, 0}, {0, -1, 0}, {LEAST, 0, 1}, {0, LEAST, 1}, {MOST, 0, 1}, {0, MOST, 1}, {0, 0, MOST}, {0, 0, LEAST},
            {MOST, 0, MOST}, {1, 0, MOST}, {0, 1, MOST}, {LEAST, LEAST, LEAST}, {MOST, MOST, LEAST}, {1, 1, LEAST},
        };
        for (int[] p : out) {
            Edges.refused("shift(0, " + p[0] + ", 1, " + p[1] + ", " + p[2] + ")", x -> x.shift(0, p[0], 1, p[1], p[2]), -13);
        }
        Edges.asked("none of them from the end to the end", x -> x.shift(0, 5, 1, 3, 0), 0);
        Edges.asked("none of them from the first to the first", x -> x.shift(0, 0, 1, 0, 0), 0);
        Edges.asked("none of them to a ROW of none", x -> x.shift(0, 0, 2, 0, 0), 0);
        Edges.asked("none of them from a ROW of none", x -> x.shift(2, 0, 0, 5, 0), 0);
        Edges.refused("one from a ROW of none", x -> x.shift(2, 0, 0, 0, 1), -13);
        Edges.refused("one to a ROW of none", x -> x.shift(0, 0, 2, 0, 1), -13);
        Edges.asked("all to where they are", x -> x.shift(0, 0, 0, 0, 5), 5);
        shifted(0, 0, 1, 0, 3, 123);
        shifted(0, 2, 1, 0, 3, 345);
        shifted(0, 4, 1, 2, 1, 675);
        shifted(0, 0, 1, 2, 1, 671);
        shifted(0, 4, 1, 0, 1, 578);
        shifted(1, 0, 0, 2, 3, 12678);
        shifted(1, 0, 0, 0, 3, 67845);
        VotesUntouched y = new VotesUntouched();
        y.row(0, BYTES, 60);
        y.row(5, BYTES, 60);
        y.put(0, 0, 7);
        y.put(0, 59, 9);
        due("sixty", y.shift(0, 0, 5, 0, 60), 60);
        due("the first of sixty", y.element(5, 0), 7);
        due("the last of sixty", y.element(5, 59), 9);
        due("sixty-one", y.shift(0, 0, 5, 0, 61), -13);
    }

    /** What the other row is afterwards, as one number's digits; the row itself is as it was, if it is not the same. */
    private static void shifted(int shelf, int i, int other, int j, int n, long want) {
        VotesUntouched x = withLongs();
        String call = "shift(" + shelf + ", " + i + ", " + other + ", " + j + ", " + n + ")";
        due(call, x.shift(shelf, i, other, j, n), n);
        due("after " + call, digits(x, other), want);
        if (shelf != other) {
            due("after " + call + ": where they came from", digits(x, shelf), shelf == 0 ? 12345 : 678);
        }
    }

    private static long digits(VotesUntouched x, int shelf) {
        long all = 0;
        for (int i = 0; x.element(shelf, i) != NONE; i++) {
            all = 10 * all + x.element(shelf, i);
        }
        return all;
    }

    private static void shiftWithin() {
        Edges.sentence(39, "(or the same) from j on, as they all were before");
        shifted(0, 0, 0, 1, 4, 11234);
        shifted(0, 1, 0, 0, 4, 23455);
        shifted(0, 0, 0, 2, 3, 12123);
        shifted(0, 2, 0, 0, 3, 34545);
        shifted(0, 0, 0, 4, 1, 12341);
        shifted(0, 4, 0, 0, 1, 52345);
        shifted(0, 0, 0, 0, 5, 12345);
        Edges.from(EdgesOfActs::withLongs);
        Edges.refused("beyond its end", x -> x.shift(0, 0, 0, 1, 5), -13);
        Edges.refused("from beyond its end", x -> x.shift(0, 1, 0, 0, 5), -13);
    }

    // ---- promise 40

    private static void taken() {
        Edges.sentence(40, "What a SHELF holds, taken for a VOTER of KIND k (0 .. 7), or under it: its KIND. BAD, -11, -12.");
        Edges.from(Edges::some);
        for (int shelf : NO_SHELVES) {
            Edges.refused("taken(" + shelf + ", 0)", x -> x.taken(shelf, 0), BAD);
        }
        for (int k : new int[] {-1, 8, 9, LEAST, MOST}) {
            for (int shelf = 0; shelf <= 5; shelf++) {
                int s = shelf;
                Edges.refused("taken(" + s + ", " + k + ")", x -> x.taken(s, k), BAD);
            }
        }
        for (int k = 0; k <= 7; k++) {
            int kind = k;
            Edges.refused("nothing there", x -> x.taken(5, kind), -11);
            Edges.refused("a row of bytes", x -> x.taken(0, kind), -12);
            Edges.refused("a row of shorts", x -> x.taken(1, kind), -12);
            Edges.refused("a row of ints", x -> x.taken(2, kind), -12);
            Edges.refused("a row of longs", x -> x.taken(3, kind), -12);
        }

        Edges.sentence(40, "-12 it is of another kind");
        String[] under = {"0", "10", "20", "320", "410", "5320", "60", "7410"};
        VotesUntouched x = new VotesUntouched();
        for (int kind = 0; kind <= 7; kind++) {
            x.keep(0, x.body(kind));
            for (int k = 0; k <= 7; k++) {
                boolean is = under[kind].indexOf('0' + k) >= 0;
                due("a VOTER of KIND " + kind + " taken for " + k, x.taken(0, k), is ? kind : -12);
            }
        }
        Edges.row(x, 0, BOOLEANS, 1);
        due("a row of booleans", x.taken(0, 0), -12);

        Edges.sentence(40, "The host's REFUSALS: -11 nothing is there where something is wanted; -12 it is of another kind; -13 a place that is"
            + " not there; -14 a size below 0.");
        due("nothing is there", new VotesUntouched().taken(0, 0), -11);
        due("it is of another kind", x.taken(0, 0), -12);
        due("a place that is not there", x.put(0, 1, 0), -13);
        due("a size below 0", x.row(0, BYTES, -1), -14);
    }

    // ---- promise 41

    private static void count() {
        Edges.sentence(41, "4 changes that may be UNDONE, 5 BODIES, 6 bodies that ran in the latest act() (all, kept or not). BAD.");
        for (Edges.Start start : new Edges.Start[] {Edges::empty, Edges::some, Edges::full}) {
            Edges.from(start);
            for (int what : new int[] {-1, 7, 8, LEAST, MOST}) {
                Edges.refused("count(" + what + ")", x -> x.count(what), BAD);
            }
        }
        Edges.sentence(41, "How many: 0 PEOPLE, 1 MATTERS, 2 pairs of COUSINS, 3 bytes on THE TAPE, 4 changes that may be UNDONE, 5 BODIES, 6");
        int[] none = {0, 0, 0, 0, 0, 0, 0};
        int[] some = {4, 3, 2, 4, 10, 8, 14};
        int[] all = {10, 6, 12, 120, 40, 50, 0};
        for (int what = 0; what <= 6; what++) {
            int w = what;
            Edges.from(Edges::empty);
            Edges.asked("nothing yet: count(" + w + ")", x -> x.count(w), none[w]);
            Edges.from(Edges::some);
            Edges.asked("some: count(" + w + ")", x -> x.count(w), some[w]);
            Edges.from(Edges::full);
            Edges.asked("all full: count(" + w + ")", x -> x.count(w), all[w]);
        }
    }
}
