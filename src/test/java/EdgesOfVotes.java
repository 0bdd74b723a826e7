/** Edges of promises 11 to 23: who may vote, whether it is carried, what is found by trying. */
final class EdgesOfVotes {
    private static final int BAD = Edges.BAD, NOT = Edges.NOT, STATE = Edges.STATE;
    private static final int LEAST = Edges.LEAST, MOST = Edges.MOST;
    // With three matters and four people there, as in Edges.some().
    private static final int[] NO_BUNDLES = {0, 8, 9, 16, 64, -1, -8, LEAST, LEAST + 1, MOST};
    private static final int[] NO_GIFTS = {-1, 16, 17, 1024, LEAST, LEAST + 1, MOST};
    private static final int[] NO_PERSONS = {-1, 4, 10, 32, LEAST, MOST};

    private EdgesOfVotes() {
    }

    static void test() {
        bundles();
        may();
        vote();
        carried();
        together();
        silenced();
        leaveOut();
        alone();
        parted();
        partedWays();
        say();
        power();
        hermit();
        chance();
        lies();
        step();
        lots();
        drawn();
    }

    private static void due(String call, long got, long want) {
        Edges.due(call, got, want);
    }

    // ---- promises 11 and 12

    private static void bundles() {
        Edges.sentence(11, "A BUNDLE: MATTERS (bits, at least one).");
        VotesUntouched x = Edges.council(1, 6);
        x.mend(5, 0, 1);
        due("the least", x.may(0, 1, 0), 1);
        due("the last matter alone", x.may(0, 32, 0), 0);
        due("all but the last", x.may(0, 31, 0), 1);
        due("the greatest", x.may(0, 63, 0), 0);
        due("beyond it", x.may(0, 64, 0), BAD);
        due("none", x.may(0, 0, 0), BAD);
        VotesUntouched one = Edges.council(1, 1);
        due("one matter", one.may(0, 1, 0), 1);
        due("beyond it", one.may(0, 2, 0), BAD);
        due("and with it", one.may(0, 3, 0), BAD);

        Edges.sentence(11, "GIFTS: PEOPLE (bits), each of them is touched by 1 more by it.");
        VotesUntouched y = Edges.council(10, 1);
        due("none", y.vote(1, 0, 0), 1023);
        due("the first", y.vote(1, 1, 0), 1022);
        due("the last", y.vote(1, 512, 0), 511);
        due("all", y.vote(1, 1023, 0), 0);
        due("beyond all", y.vote(1, 1024, 0), BAD);
        due("below 0", y.vote(1, -1, 0), BAD);
        due("nobody to give to", Edges.council(0, 1).vote(1, 1, 0), BAD);
        due("nobody to give to: none", Edges.council(0, 1).vote(1, 0, 0), 0);
        y.mend(0, 0, 99);
        Edges.law(y, "t=100");
        due("by 1 more than the most", y.vote(1, 1, 0), 1);

        Edges.sentence(11, "OWN TOUCH: the sum of TOUCH of its MATTERS (and 1 by a gift).");
        VotesUntouched z = Edges.council(2, 3);
        z.mend(0, 0, 99);
        z.mend(1, 0, 98);
        z.mend(10, 0, 1);
        int[][] sums = {{1, 99, 1}, {2, 98, 0}, {3, 197, 1}, {4, 0, 0}, {7, 197, 1}};
        for (int[] s : sums) {
            Edges.law(z, "p=0&t=" + s[1]);
            due("the sum of the first", z.vote(s[0], 0, 0), 1);
            Edges.law(z, "p=1&t=" + s[2]);
            due("the sum of the second", z.vote(s[0], 0, 0), 2);
            Edges.law(z, "p=0&t=" + (s[1] + 1));
            due("and 1 by a gift", z.vote(s[0], 1, 0), 1);
        }
    }

    private static void may() {
        Edges.sentence(11, "A PERSON MAY vote on a BUNDLE with GIFTS: 1, 0. BAD.");
        Edges.from(Edges::some);
        Edges.asked("may(0, 1, 0)", x -> x.may(0, 1, 0), 0);
        Edges.asked("may(3, 2, 0)", x -> x.may(3, 2, 0), 1);
        Edges.asked("may(3, 7, 15)", x -> x.may(3, 7, 15), 1);
        Edges.asked("may(2, 7, 15)", x -> x.may(2, 7, 15), 0);
        for (int person : NO_PERSONS) {
            Edges.refused("may(" + person + ", 1, 0)", x -> x.may(person, 1, 0), BAD);
        }
        for (int bundle : NO_BUNDLES) {
            Edges.refused("may(0, " + bundle + ", 0)", x -> x.may(0, bundle, 0), BAD);
        }
        for (int gifts : NO_GIFTS) {
            Edges.refused("may(0, 1, " + gifts + ")", x -> x.may(0, 1, gifts), BAD);
        }
        Edges.from(Edges::empty);
        Edges.refused("nobody, nothing", x -> x.may(0, 1, 0), BAD);
        Edges.from(() -> Edges.council(10, 0));
        Edges.refused("no matter", x -> x.may(0, 1, 0), BAD);
        Edges.from(() -> Edges.council(10, 6));
        Edges.asked("the last person on all with all gifts", x -> x.may(9, 63, 1023), 0);
        Edges.asked("the last person on all", x -> x.may(9, 63, 511), 1);
        Edges.refused("beyond the last person", x -> x.may(10, 63, 0), BAD);
        Edges.refused("beyond all matters", x -> x.may(9, 64, 0), BAD);
        Edges.refused("beyond all gifts", x -> x.may(9, 63, 1024), BAD);
    }

    private static void vote() {
        Edges.sentence(12, "VOTE: of those who MAY: for it, if LIKED together is above 0, against it, if below.");
        VotesUntouched x = Edges.council(5, 2);
        Edges.tell(x, 0, 1, 1, -1, 0, 9, -9);
        due("above 0", x.vote(1, 0, 1), 9);
        due("below 0", x.vote(1, 0, 2), 18);
        due("together with one not liked", x.vote(3, 0, 1), 9);
        Edges.tell(x, 1, 1, -1, 1, 0, -8, 8);
        due("together 0, 0, 0, 1", x.vote(3, 0, 1), 8);
        due("together 0, 0, 0, 1, -1", x.vote(3, 0, 2), 16);
        due("not of those who may not", x.vote(3, 24, 1) + x.vote(3, 24, 2), 0);
        x.mend(30, 0, 1);
        due("touched: not for it", x.vote(1, 0, 1), 1);
        x.mend(40, 0, 1);
        due("touched: not against it", x.vote(1, 0, 2), 2);

        Edges.sentence(12, "VOTE on a BUNDLE with GIFTS: who MAY (what 0), is for it (1), against it (2), as bits; CARRIED (3: 1, 0)."
            + " BAD.");
        Edges.from(Edges::some);
        Edges.asked("vote(2, 0, 0)", c -> c.vote(2, 0, 0), 10);
        Edges.asked("vote(2, 0, 1)", c -> c.vote(2, 0, 1), 8);
        Edges.asked("vote(1, 0, 2)", c -> c.vote(1, 0, 2), 8);
        Edges.asked("vote(2, 0, 3)", c -> c.vote(2, 0, 3), 1);
        for (int what : new int[] {-1, 4, LEAST, MOST}) {
            Edges.refused("vote(1, 0, " + what + ")", c -> c.vote(1, 0, what), BAD);
        }
        for (int what = 0; what <= 3; what++) {
            int w = what;
            for (int bundle : NO_BUNDLES) {
                Edges.refused("vote(" + bundle + ", 0, " + w + ")", c -> c.vote(bundle, 0, w), BAD);
            }
            for (int gifts : NO_GIFTS) {
                Edges.refused("vote(1, " + gifts + ", " + w + ")", c -> c.vote(1, gifts, w), BAD);
            }
        }
    }

    private static void carried() {
        Edges.sentence(12, "CARRIED: at least QUORUM MAY, and more are for than against it.");
        VotesUntouched x = Edges.council(10, 1);
        x.rule(1, 10);
        due("nobody is for it", x.vote(1, 0, 3), 0);
        x.mend(0, 1, 1);
        due("one for, none against, ten may", x.vote(1, 0, 3), 1);
        due("nine may", x.vote(1, 512, 3), 0);
        x.rule(1, 9);
        due("nine may, nine must", x.vote(1, 512, 3), 1);
        due("eight may", x.vote(1, 768, 3), 0);
        x.rule(1, 1);
        due("one may", x.vote(1, 1022, 3), 1);
        x.mend(10, 1, -1);
        due("as many for as against", x.vote(1, 0, 3), 0);
        x.mend(20, 1, 1);
        due("one more for", x.vote(1, 0, 3), 1);
        x.mend(30, 1, -1);
        x.mend(40, 1, -1);
        due("one more against", x.vote(1, 0, 3), 0);
        x.rule(1, 0);
        due("QUORUM 0, and nobody may", x.vote(1, 1023, 3), 0);
        due("QUORUM 0, and one may", x.vote(1, 1022, 3), 1);
        VotesUntouched nobody = Edges.council(0, 1);
        due("nobody there", nobody.vote(1, 0, 3), 0);
        nobody.rule(1, 0);
        due("nobody there, QUORUM 0", nobody.vote(1, 0, 3), 0);
        VotesUntouched all = Edges.council(10, 1);
        Edges.tell(all, 0, 1, 1, 1, 1, 1, 1, -1, -1, -1, -1, -1);
        due("five for, five against", all.vote(1, 0, 3), 0);
        all.mend(90, 1, 0);
        due("five for, four against", all.vote(1, 0, 3), 1);
        all.mend(0, 1, 0);
        due("four for, four against", all.vote(1, 0, 3), 0);
    }

    // ---- promise 13

    private static void together() {
        Edges.sentence(13, "TOGETHER: of all BUNDLES with a told MATTER that are CARRIED the one with fewest MATTERS (of like ones the"
            + " least bits); NOT.");
        VotesUntouched x = Edges.council(1, 6);
        due("none is CARRIED", x.together(0), NOT);
        x.mend(5, 1, 9);
        due("it alone", x.together(5), 32);
        due("with one", x.together(0), 33);
        due("with one", x.together(4), 48);
        x.mend(4, 1, 9);
        due("of like ones the least bits", x.together(0), 17);
        x.mend(0, 1, -9);
        due("two do not outweigh it by 0", x.together(0), 49);
        x.mend(1, 1, 1);
        due("of three the least bits", x.together(0), 19);
        x.mend(0, 1, 1);
        due("the first alone", x.together(0), 1);
        due("it alone", x.together(1), 2);
        VotesUntouched all = Edges.council(1, 6);
        for (int m = 0; m < 6; m++) {
            all.mend(m, 1, m == 0 ? -9 : 2);
        }
        due("all", all.together(0), 63);
        all.mend(1, 1, 1);
        due("not all", all.together(0), NOT);
        due("five of them", all.together(1), 2);
        VotesUntouched like = Edges.council(1, 4);
        Edges.law(like, "n=3");
        for (int m = 0; m < 4; m++) {
            like.mend(m, 1, 1);
        }
        due("of three the least bits", like.together(0), 7);
        due("of three the least bits", like.together(3), 11);

        Edges.sentence(13, "TOGETHER. BAD; NOT.");
        Edges.from(Edges::some);
        for (int matter : new int[] {-1, 3, 6, 32, LEAST, MOST}) {
            Edges.refused("together(" + matter + ")", c -> c.together(matter), BAD);
        }
        Edges.asked("together(2)", c -> c.together(2), 6);
        Edges.from(() -> Edges.council(3, 6));
        Edges.refused("none is CARRIED", c -> c.together(5), NOT);
        Edges.refused("the seventh matter", c -> c.together(6), BAD);
        Edges.from(Edges::empty);
        Edges.refused("no matter", c -> c.together(0), BAD);
    }

    // ---- promise 14

    private static VotesUntouched withFees(int... fees) {
        VotesUntouched x = new VotesUntouched();
        for (int fee : fees) {
            x.person(fee);
        }
        x.matter();
        return x;
    }

    private static void silenced() {
        Edges.sentence(14, "SILENCED: of all sets of GIFTS with which a BUNDLE is CARRIED that with least FEES (of like ones the"
            + " fewest, then the least bits): it; FEES; NOT.");
        VotesUntouched none = withFees(0, 0);
        none.mend(0, 1, 1);
        due("no gift", none.silenced(1, 0), 0);
        due("no FEE", none.silenced(1, 1), 0);
        VotesUntouched free = withFees(0, 0, 0, 0);
        Edges.tell(free, 0, 1, 1, 1, -1, -1);
        due("without FEES: fewest, then least bits", free.silenced(1, 0), 4);
        due("no FEE", free.silenced(1, 1), 0);
        VotesUntouched dear = withFees(99, 98, 98, 99);
        Edges.tell(dear, 0, 1, -1, -1, -1, 1);
        due("the two cheapest and one of the dear", dear.silenced(1, 0), 7);
        due("FEES", dear.silenced(1, 1), 295);
        dear.mend(0, 1, 0);
        due("two", dear.silenced(1, 0), 6);
        due("FEES", dear.silenced(1, 1), 196);
        VotesUntouched fewest = withFees(2, 3, 0, 5);
        fewest.cousins(30);
        fewest.cousins(31);
        Edges.tell(fewest, 0, 1, -1, -1, 1, 0);
        due("of like FEES the fewest", fewest.silenced(1, 0), 8);
        VotesUntouched cheaper = withFees(3, 2, 0, 0);
        Edges.tell(cheaper, 0, 1, -1, -1, 1, 1);
        cheaper.rule(1, 3);
        due("cheaper by one", cheaper.silenced(1, 0), 2);
        cheaper.rule(1, 0);
        due("cheaper by one", cheaper.silenced(1, 1), 2);
        VotesUntouched least = withFees(1, 1, 1, 1, 1);
        Edges.tell(least, 0, 1, 1, -1, -1, 1, -1);
        due("of as few the least bits", least.silenced(1, 0), 6);
        least.mend(40, 1, 0);
        due("of as few the least bits", least.silenced(1, 0), 2);
        least.mend(20, 1, 0);
        due("none is fewer", least.silenced(1, 0), 0);
        VotesUntouched all = withFees(99, 99, 99, 99, 99, 99, 99, 99, 99, 99);
        Edges.law(all, "g");
        all.rule(1, 10);
        all.mend(90, 1, 1);
        due("all gifts", all.silenced(1, 0), 1023);
        due("all FEES", all.silenced(1, 1), 990);
        all.mend(90, 1, 0);
        due("nobody is for it", all.silenced(1, 0), NOT);
        due("nobody is for it", all.silenced(1, 1), NOT);
        due("nobody there", Edges.council(0, 1).silenced(1, 0), NOT);

        Edges.sentence(14, "SILENCED: GIFTS (what 0), FEES (1). BAD; NOT.");
        Edges.from(Edges::some);
        for (int bundle : NO_BUNDLES) {
            Edges.refused("silenced(" + bundle + ", 0)", x -> x.silenced(bundle, 0), BAD);
            Edges.refused("silenced(" + bundle + ", 1)", x -> x.silenced(bundle, 1), BAD);
        }
        for (int what : new int[] {-1, 2, LEAST, MOST}) {
            Edges.refused("silenced(1, " + what + ")", x -> x.silenced(1, what), BAD);
        }
        Edges.asked("silenced(2, 0)", x -> x.silenced(2, 0), 0);
        Edges.from(() -> Edges.council(3, 2));
        Edges.refused("nobody is for it", x -> x.silenced(3, 0), NOT);
        Edges.refused("nobody is for it", x -> x.silenced(3, 1), NOT);
    }

    // ---- promise 15

    private static void leaveOut() {
        Edges.sentence(15, "LEAVE OUT: the fewest MATTERS of a BUNDLE (not all; of like ones the least bits) without which a PERSON MAY"
            + " vote on it; NOT (0: it may).");
        VotesUntouched x = Edges.council(2, 6);
        due("it may", x.leaveOut(0, 63), 0);
        for (int m = 0; m < 5; m++) {
            x.mend(m, 0, 1);
        }
        due("all but one", x.leaveOut(0, 63), 31);
        due("the only one: not all", x.leaveOut(0, 1), NOT);
        due("each of two: not all", x.leaveOut(0, 3), NOT);
        due("one of two", x.leaveOut(0, 33), 1);
        due("not of those outside", x.leaveOut(0, 48), 16);
        due("another one may", x.leaveOut(1, 63), 0);
        due("the untouching one", x.leaveOut(0, 32), 0);
        x.mend(5, 0, 1);
        due("each touches: not all", x.leaveOut(0, 63), NOT);
        Edges.law(x, "n<6");
        due("of like ones the least bits", x.leaveOut(0, 63), 1);
        Edges.law(x, "n<5");
        due("of like ones the least bits", x.leaveOut(0, 63), 3);
        Edges.law(x, "n=1");
        due("all but the last", x.leaveOut(0, 63), 31);
        Edges.law(x, "n=1|n=2&t=2");
        due("of a bundle the least bits", x.leaveOut(0, 56), 8);

        Edges.sentence(15, "LEAVE OUT, as bits. BAD; NOT.");
        Edges.from(Edges::some);
        for (int person : NO_PERSONS) {
            Edges.refused("leaveOut(" + person + ", 1)", c -> c.leaveOut(person, 1), BAD);
        }
        for (int bundle : NO_BUNDLES) {
            Edges.refused("leaveOut(0, " + bundle + ")", c -> c.leaveOut(0, bundle), BAD);
        }
        Edges.refused("leaveOut(0, 1)", c -> c.leaveOut(0, 1), NOT);
        Edges.refused("leaveOut(0, 3)", c -> c.leaveOut(0, 3), NOT);
        Edges.asked("leaveOut(0, 5)", c -> c.leaveOut(0, 5), 1);
        Edges.asked("leaveOut(2, 3)", c -> c.leaveOut(2, 3), 2);
        Edges.asked("leaveOut(3, 2)", c -> c.leaveOut(3, 2), 0);
        Edges.from(Edges::empty);
        Edges.refused("nobody, nothing", c -> c.leaveOut(0, 1), BAD);
    }

    // ---- promise 16

    private static void alone() {
        Edges.sentence(16, "ALONE: MATTERS (bits) that are CARRIED one by one.");
        Edges.from(Edges::empty);
        Edges.asked("no matter", x -> x.alone(), 0);
        Edges.from(Edges::some);
        Edges.asked("some", x -> x.alone(), 2);
        VotesUntouched x = Edges.council(1, 6);
        due("none", x.alone(), 0);
        x.mend(5, 1, 1);
        due("the last", x.alone(), 32);
        x.mend(0, 1, 1);
        due("the first and the last", x.alone(), 33);
        for (int m = 0; m < 6; m++) {
            x.mend(m, 1, 1);
        }
        due("all", x.alone(), 63);
        x.mend(3, 0, 1);
        due("one touches", x.alone(), 55);
        due("nobody", Edges.council(0, 6).alone(), 0);
    }

    // ---- promise 17

    private static void parted() {
        Edges.sentence(17, "PARTED: how many (matter -1), the BUNDLE of a MATTER. BAD.");
        Edges.from(Edges::some);
        for (int matter : new int[] {-2, 3, 6, 32, LEAST, MOST}) {
            Edges.refused("parted(" + matter + ")", x -> x.parted(matter), BAD);
        }
        Edges.asked("parted(-1)", x -> x.parted(-1), 2);
        Edges.asked("parted(2)", x -> x.parted(2), 6);
        Edges.from(() -> Edges.council(1, 6));
        Edges.asked("the last matter", x -> x.parted(5), 32);
        Edges.refused("the seventh", x -> x.parted(6), BAD);
        Edges.from(Edges::empty);
        Edges.asked("no matter: how many", x -> x.parted(-1), 0);
        Edges.refused("no matter: its BUNDLE", x -> x.parted(0), BAD);
        VotesUntouched one = Edges.council(1, 1);
        due("one, not CARRIED", one.parted(-1), 0);
        due("its BUNDLE", one.parted(0), 1);
        one.mend(0, 1, 1);
        due("one, CARRIED", one.parted(-1), 1);
        due("its BUNDLE", one.parted(0), 1);
    }

    private static void partedWays() {
        Edges.sentence(17, "PARTED: all MATTERS parted into BUNDLES: by how most MATTERS are in BUNDLES that are CARRIED: how many; the"
            + " BUNDLE in which a MATTER is then (of all such ways that in which the BUNDLE of MATTER 0 is least by bits, then that of"
            + " the least MATTER that is not in it, and so on).");
        VotesUntouched x = Edges.council(1, 6);
        due("none", x.parted(-1), 0);
        for (int m = 0; m < 6; m++) {
            due("each alone, least by bits", x.parted(m), 1 << m);
        }
        for (int m = 0; m < 6; m++) {
            x.mend(m, 1, 1);
        }
        due("all alone", x.parted(-1), 6);
        due("the last", x.parted(5), 32);
        Edges.law(x, "n=6");
        due("all together", x.parted(-1), 6);
        due("all together", x.parted(0), 63);
        due("all together", x.parted(5), 63);
        Edges.law(x, "n=5");
        due("five", x.parted(-1), 5);
        due("the first alone", x.parted(0), 1);
        due("the others", x.parted(1), 62);
        Edges.law(x, "n=4");
        due("four", x.parted(-1), 4);
        due("the first alone", x.parted(0), 1);
        due("the second alone", x.parted(1), 2);
        due("the others", x.parted(2), 60);
        Edges.law(x, "n=3");
        due("two by three", x.parted(-1), 6);
        due("the least of 0", x.parted(0), 7);
        due("the rest", x.parted(3), 56);
        Edges.law(x, "n=2");
        due("three by two", x.parted(-1), 6);
        due("the least of 0", x.parted(0), 3);
        due("then the least of 2", x.parted(2), 12);
        due("the rest", x.parted(5), 48);
        Edges.law(x, "n=2|n=5");
        due("three by two", x.parted(-1), 6);
        due("the least of 0", x.parted(1), 3);
        x.mend(0, 1, -1);
        x.mend(1, 1, -1);
        due("not those two together", x.parted(-1), 5);
        due("the first alone", x.parted(0), 1);
        Edges.law(x, "n<4");
        x.mend(2, 1, 2);
        x.mend(3, 1, 2);
        due("all", x.parted(-1), 6);
        due("the least of 0", x.parted(0), 5);
        due("then the least of 1", x.parted(1), 10);
        due("then the least of 4", x.parted(4), 16);
    }

    // ---- promise 18

    private static void say() {
        Edges.sentence(18, "SAY of a PERSON: of all BUNDLES on how many it MAY vote.");
        VotesUntouched x = Edges.council(1, 6);
        due("all", x.say(0, 0), 63);
        for (int m = 0; m < 6; m++) {
            x.mend(m, 0, 1);
            due("all without " + (m + 1), x.say(0, 0), (1 << 5 - m) - 1);
        }
        due("no matter", Edges.council(1, 0).say(0, 0), 0);
        due("one matter", Edges.council(1, 1).say(0, 0), 1);

        Edges.sentence(18, "SAY (what 0), POWER (1) of a PERSON. BAD.");
        Edges.from(Edges::some);
        for (int person : NO_PERSONS) {
            Edges.refused("say(" + person + ", 0)", c -> c.say(person, 0), BAD);
            Edges.refused("say(" + person + ", 1)", c -> c.say(person, 1), BAD);
        }
        for (int what : new int[] {-1, 2, LEAST, MOST}) {
            Edges.refused("say(0, " + what + ")", c -> c.say(0, what), BAD);
        }
        Edges.asked("say(3, 0)", c -> c.say(3, 0), 7);
        Edges.asked("say(0, 0)", c -> c.say(0, 0), 1);
        Edges.asked("say(3, 1)", c -> c.say(3, 1), 2);
        Edges.from(() -> Edges.council(10, 6));
        Edges.asked("the last person", c -> c.say(9, 0), 63);
        Edges.refused("beyond the last", c -> c.say(10, 0), BAD);
        Edges.from(Edges::empty);
        Edges.refused("nobody", c -> c.say(0, 0), BAD);
        Edges.refused("nobody", c -> c.say(0, 1), BAD);
    }

    private static void power() {
        Edges.sentence(18, "POWER: of all BUNDLES in how many it MAY vote, and CARRIED were otherwise, if it did not vote (QUORUM counts"
            + " it not then).");
        VotesUntouched x = Edges.council(3, 1);
        due("not CARRIED anyway", x.say(0, 1), 0);
        Edges.tell(x, 0, 1, 1, 0, 0);
        due("the only one for it", x.say(0, 1), 1);
        due("one who leans not, above QUORUM", x.say(1, 1), 0);
        x.rule(1, 3);
        due("one who leans not, at QUORUM", x.say(1, 1), 1);
        x.rule(1, 4);
        due("below QUORUM anyway", x.say(1, 1), 0);
        due("below QUORUM anyway", x.say(0, 1), 0);
        x.rule(1, 2);
        due("one above QUORUM", x.say(1, 1), 0);
        x.rule(1, 0);
        Edges.tell(x, 0, 1, 1, 1, -1);
        due("one ahead: for", x.say(0, 1), 1);
        due("one ahead: against", x.say(2, 1), 0);
        Edges.tell(x, 0, 1, 1, 0, -1);
        due("as many: for", x.say(0, 1), 0);
        due("as many: against, CARRIED without", x.say(2, 1), 1);
        x.rule(1, 3);
        due("as many: against, but at QUORUM", x.say(2, 1), 0);
        x.rule(1, 2);
        due("as many: against, above QUORUM", x.say(2, 1), 1);
        x.mend(20, 0, 1);
        due("it may not", x.say(2, 1), 0);
        VotesUntouched all = Edges.council(1, 6);
        for (int m = 0; m < 6; m++) {
            all.mend(m, 1, 1);
        }
        due("in all", all.say(0, 1), 63);
        due("no matter", Edges.council(1, 0).say(0, 1), 0);
    }

    // ---- promise 19

    private static void hermit() {
        Edges.sentence(19, "HERMIT: the PERSON with most SAY (of like ones the least number).");
        VotesUntouched x = Edges.council(10, 2);
        due("all alike", x.hermit(), 0);
        for (int p = 0; p < 9; p++) {
            x.mend(10 * p, 0, 1);
            due("the next", x.hermit(), p + 1);
        }
        x.mend(90, 0, 1);
        due("all alike", x.hermit(), 0);
        x.mend(91, 0, 1);
        due("the last has least", x.hermit(), 0);
        x.mend(1, 0, 1);
        due("the first and the last have least", x.hermit(), 1);
        due("no matter", Edges.council(10, 0).hermit(), 0);
        due("one", Edges.council(1, 6).hermit(), 0);

        Edges.sentence(19, "HERMIT. STATE: nobody.");
        Edges.from(Edges::empty);
        Edges.refused("nobody, nothing", c -> c.hermit(), STATE);
        Edges.from(() -> Edges.council(0, 6));
        Edges.refused("nobody", c -> c.hermit(), STATE);
        Edges.from(Edges::some);
        Edges.asked("some", c -> c.hermit(), 3);
    }

    // ---- promise 20

    private static void chance() {
        Edges.sentence(20, "CHANCE: a BUNDLE with RUMOURS: each of its MATTERS touches (all whom it touches, at once) in as many of"
            + " twelve as told, else nobody, each by itself: how likely it is CARRIED: a fraction in lowest terms (0 by 1).");
        // Person 0 is against it, and touched: carried if the matter touches.
        VotesUntouched x = Edges.council(2, 1);
        Edges.tell(x, 0, 1, -1, 1);
        x.mend(0, 0, 1);
        int[][] lowest = {{0, 1}, {1, 12}, {1, 6}, {1, 4}, {1, 3}, {5, 12}, {1, 2}, {7, 12}, {2, 3}, {3, 4}, {5, 6}, {11, 12}, {1, 1}};
        for (int rumour = 0; rumour <= 12; rumour++) {
            x.mend(0, 2, rumour);
            due("above, rumour " + rumour, x.chance(1, 0), lowest[rumour][0]);
            due("below, rumour " + rumour, x.chance(1, 1), lowest[rumour][1]);
        }
        x.mend(10, 0, 1);
        due("all whom it touches, at once", x.chance(1, 0), 0);
        VotesUntouched six = Edges.council(1, 6);
        for (int m = 0; m < 6; m++) {
            six.mend(m, 0, 1);
            six.mend(m, 1, 1);
            six.mend(m, 2, 11);
        }
        due("none of six touches", six.chance(63, 0), 1);
        due("none of six touches", six.chance(63, 1), 2985984);
        six.mend(5, 2, 12);
        due("one does for sure", six.chance(63, 0), 0);
        due("one does for sure: by 1", six.chance(63, 1), 1);
        due("five without it", six.chance(31, 1), 248832);
        due("the last alone", six.chance(32, 0), 0);
        six.mend(5, 2, 0);
        due("the last never", six.chance(63, 1), 248832);
        Edges.law(six, "1");
        due("surely", six.chance(63, 0), 1);
        due("surely", six.chance(63, 1), 1);

        Edges.sentence(20, "CHANCE: part 0 above, 1 below the line. BAD.");
        Edges.from(Edges::some);
        for (int bundle : NO_BUNDLES) {
            Edges.refused("chance(" + bundle + ", 0)", c -> c.chance(bundle, 0), BAD);
            Edges.refused("chance(" + bundle + ", 1)", c -> c.chance(bundle, 1), BAD);
        }
        for (int part : new int[] {-1, 2, LEAST, MOST}) {
            Edges.refused("chance(1, " + part + ")", c -> c.chance(1, part), BAD);
        }
        Edges.asked("chance(2, 0)", c -> c.chance(2, 0), 7);
        Edges.asked("chance(2, 1)", c -> c.chance(2, 1), 12);
        due("nobody", Edges.council(0, 1).chance(1, 0), 0);
        due("nobody: by 1", Edges.council(0, 1).chance(1, 1), 1);
    }

    // ---- promise 21

    private static void lies() {
        Edges.sentence(21, "LIES: the fewest PEOPLE of whom a mayor must say the other thing (who MAY does not, who may not does) so that"
            + " CARRIED is otherwise (of like ones the least bits): bits; NOT.");
        VotesUntouched x = Edges.council(10, 1);
        due("nobody leans", x.lies(1), NOT);
        x.mend(90, 1, 1);
        due("the last", x.lies(1), 512);
        x.mend(80, 1, 1);
        due("two ahead: both", x.lies(1), 768);
        x.rule(1, 10);
        due("at QUORUM: any, the least", x.lies(1), 1);
        x.mend(0, 0, 1);
        due("one below QUORUM: that one", x.lies(1), 1);
        x.mend(10, 0, 1);
        due("two below QUORUM: both", x.lies(1), 3);
        for (int p = 0; p < 10; p++) {
            x.mend(10 * p, 0, 1);
        }
        due("all must lie", x.lies(1), 1023);
        VotesUntouched like = Edges.council(4, 1);
        Edges.tell(like, 0, 1, 1, -1, -1, 1);
        due("of like ones the least bits", like.lies(1), 2);
        like.mend(0, 0, 1);
        due("who may not does: as many then; two", like.lies(1), 3);
        due("nobody", Edges.council(0, 1).lies(1), NOT);
        VotesUntouched one = Edges.council(1, 1);
        due("one who leans not", one.lies(1), NOT);
        one.mend(0, 1, -1);
        due("one against it", one.lies(1), NOT);
        one.mend(0, 1, 1);
        due("one for it", one.lies(1), 1);
        one.mend(0, 0, 1);
        due("one for it who may not", one.lies(1), 1);
        one.rule(1, 2);
        due("QUORUM above all", one.lies(1), NOT);

        Edges.sentence(21, "LIES, as bits. BAD; NOT.");
        Edges.from(Edges::some);
        for (int bundle : NO_BUNDLES) {
            Edges.refused("lies(" + bundle + ")", c -> c.lies(bundle), BAD);
        }
        Edges.asked("lies(2)", c -> c.lies(2), 1);
        Edges.from(() -> Edges.council(10, 6));
        Edges.refused("nobody leans", c -> c.lies(63), NOT);
    }

    // ---- promise 22

    private static void step() {
        Edges.sentence(22, "STEP: the least K (0 .. 4) with which, without THE LAW, fewer than n (1 .. 10) MAY vote on a BUNDLE; NOT.");
        VotesUntouched x = Edges.council(10, 2);
        for (int i = 0; i < 9; i++) {
            x.cousins(11 * i + 1);
        }
        due("all may: fewer than 10 do not", x.step(1, 10), NOT);
        x.mend(0, 0, 1);
        // With K from 0 on 9, 8, 7, 6, 5 of them may.
        int[] least = {NOT, NOT, NOT, NOT, NOT, 4, 3, 2, 1, 0};
        for (int n = 1; n <= 10; n++) {
            due("fewer than " + n, x.step(1, n), least[n - 1]);
        }
        x.rule(0, 4);
        due("whatever K is", x.step(1, 9), 1);
        Edges.law(x, "0");
        due("whatever THE LAW is", x.step(1, 9), 1);
        due("another matter", x.step(2, 10), NOT);
        due("both", x.step(3, 6), 4);
        due("nobody", Edges.council(0, 1).step(1, 1), 0);

        Edges.sentence(22, "STEP. BAD; NOT.");
        Edges.from(Edges::some);
        for (int bundle : NO_BUNDLES) {
            Edges.refused("step(" + bundle + ", 1)", c -> c.step(bundle, 1), BAD);
        }
        for (int n : new int[] {0, -1, 11, LEAST, MOST}) {
            Edges.refused("step(1, " + n + ")", c -> c.step(1, n), BAD);
        }
        Edges.asked("step(2, 1)", c -> c.step(2, 1), NOT);
        Edges.asked("step(2, 2)", c -> c.step(2, 2), 1);
        Edges.asked("step(2, 10)", c -> c.step(2, 10), 0);
    }

    // ---- promise 23

    private static void lots() {
        Edges.sentence(23, "LOTS: n times (1 .. 30) by a SEED m of PEOPLE are drawn (1 .. 10, no more than there are)");
        VotesUntouched x = Edges.council(10, 1);
        Edges.tell(x, 0, 1, 1, 1, 1, 1, 1, 1, 1, 1, 1, 1);
        due("once, one", x.lots(7, 101, 1), 1);
        due("once, ten", x.lots(7, 110, 1), 1);
        due("thirty times, one", x.lots(7, 3001, 1), 30);
        due("thirty times, ten", x.lots(7, 3010, 1), 30);
        Edges.from(() -> Edges.council(10, 1));
        for (int nm : new int[] {0, 1, 10, 99, 100, 111, 199, 3000, 3011, 3101, 3110, -101, -1, LEAST, MOST}) {
            Edges.refused("lots(7, " + nm + ", 1)", c -> c.lots(7, nm, 1), BAD);
        }
        Edges.from(() -> Edges.council(9, 1));
        Edges.asked("as many as there are", c -> c.lots(7, 109, 1), 0);
        Edges.refused("more than there are", c -> c.lots(7, 110, 1), BAD);
        Edges.from(() -> Edges.council(1, 1));
        Edges.asked("the only one", c -> c.lots(7, 3001, 1), 0);
        Edges.refused("two of one", c -> c.lots(7, 102, 1), BAD);
        Edges.from(() -> Edges.council(0, 1));
        Edges.refused("one of nobody", c -> c.lots(7, 101, 1), BAD);
        Edges.refused("none of nobody", c -> c.lots(7, 100, 1), BAD);

        Edges.sentence(23, "LOTS (nm: 100 n and m). BAD.");
        Edges.from(Edges::some);
        for (int bundle : NO_BUNDLES) {
            Edges.refused("lots(7, 101, " + bundle + ")", c -> c.lots(7, 101, bundle), BAD);
        }
        Edges.refused("more than there are", c -> c.lots(7, 105, 1), BAD);
        Edges.asked("all that there are", c -> c.lots(7, 3004, 1), 30);
    }

    /** How often the bits that are drawn have more of the fans than of the foes, told another way. */
    private static int often(int seed, int n, int m, int people, int fans, int foes) {
        int often = 0;
        int z = seed;
        for (int i = 0; i < n; i++) {
            java.util.ArrayList<Integer> left = new java.util.ArrayList<>();
            for (int p = 0; p < people; p++) {
                left.add(p);
            }
            int more = 0;
            for (int d = 0; d < m; d++) {
                z = z * 1103515245 + 12345;
                int who = left.remove((int) (((z & 0xffffffffL) >> 8) % left.size()));
                more += fans >> who & 1;
                more -= foes >> who & 1;
            }
            often += more > 0 ? 1 : 0;
        }
        return often;
    }

    private static void drawn() {
        Edges.sentence(23, "z = z * 1103515245 + 12345 (an int; SEED at first) for each, (z >>> 8) % of those that are left, which (by"
            + " numbers) is drawn; all drawn MAY vote (touched or not): how often more are for than against it.");
        VotesUntouched x = Edges.council(10, 1);
        Edges.tell(x, 0, 0, 9, 9, 9, 9, 9, 9, 9, 9, 9, 9);
        x.rule(1, 10);
        Edges.law(x, "0");
        // z from 0: 12345, and 48 % 10 is 8. From -1: it wraps below 0, (z >>> 8) is 12466657, and % 10 is 7.
        for (int p = 0; p < 10; p++) {
            x.mend(10 * p, 1, 1);
            due("the one drawn by seed 0", x.lots(0, 101, 1), p == 8 ? 1 : 0);
            due("the one drawn by seed -1", x.lots(-1, 101, 1), p == 7 ? 1 : 0);
            x.mend(10 * p, 1, 0);
        }
        Edges.tell(x, 0, 1, 1, -1, 1, -1, 1, -1, 1, 0, 0, -1);
        int[] seeds = {0, 1, -1, 5, 77, 12345, 1 << 30, 1 << 31, LEAST + 1, MOST, MOST - 1, -1103515245};
        for (int seed : seeds) {
            for (int m = 1; m <= 10; m++) {
                due("lots(" + seed + ", 3000 + " + m + ", 1)", x.lots(seed, 3000 + m, 1), often(seed, 30, m, 10, 85, 554));
                due("lots(" + seed + ", 100 + " + m + ", 1)", x.lots(seed, 100 + m, 1), often(seed, 1, m, 10, 85, 554));
            }
        }
    }
}
