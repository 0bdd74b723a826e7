/** The terms: people, the law, votes; what is found; years; voters and shelves. */
final class WalkOfTerms {
    private static final int BAD = Walk.BAD, NOT = Walk.NOT, FULL = Walk.FULL, STATE = Walk.STATE;

    private WalkOfTerms() {
    }

    private static void due(String call, long got, long want) {
        Walk.due(call, got, want);
    }

    static void test() {
        Walk.heading("## Terms");
        people();
        bundles();
        lines();
        joined();
        operands();
        worths();
        whoMay();
        found();
        parted();
        says();
        chances();
        lots();
        years();
        deeds();
        voters();
        bodies();
        shelves();
        answers();
        ahead();
    }

    // ---- 1

    private static void people() {
        Walk.heading("======== 1");
        Walk.says("PEOPLE 0 .. 9, as they come: a FEE (0 .. 99: what a gift to it costs).");
        int[] fees = {0, 99, 3, 40, 5, 60, 7, 80, 9, 10};
        VotesUntouched x = new VotesUntouched();
        due("a FEE below 0", x.person(-1), BAD);
        due("a FEE of 100", x.person(100), BAD);
        for (int p = 0; p < fees.length; p++) {
            due("person " + p, x.person(fees[p]), p);
            due("its FEE", x.of(p, 10), fees[p]);
        }
        due("the eleventh", x.person(1), FULL);
        x.matter();
        x.decide(1, 1 << 1 | 1 << 3 | 1 << 9);
        due("what three gifts cost", x.led(4), 99 + 40 + 10);

        Walk.says("COUSINS: pairs, as they come (12 at most);");
        int[] pairs = {1, 12, 23, 34, 45, 50, 2, 13, 24, 35, 40, 51, 3};
        VotesUntouched y = Walk.council(7, 0);
        for (int i = 0; i < pairs.length; i++) {
            due("pair " + pairs[i], y.cousins(pairs[i]), i < 12 ? i + 1 : FULL);
        }

        Walk.says("STEPS between two: the fewest pairs from one to the other (0 itself; 9: none).");
        VotesUntouched ring = Walk.council(7, 0);
        for (int i = 0; i < 6; i++) {
            ring.cousins(10 * i + (i + 1) % 6);
        }
        for (int other = 0; other < 7; other++) {
            int steps = new int[] {0, 1, 2, 3, 2, 1, 9}[other];
            due("0 to " + other + " about a ring of six", ring.of(other, 30), steps);
            due("and back", ring.of(10 * other, 30), steps);
        }
        ring.cousins(30);
        due("across", ring.of(3, 30), 1);
        due("1 to 4 by 0 and 3", ring.of(14, 30), 3);
        due("1 to 3", ring.of(13, 30), 2);
        due("a stranger to itself", ring.of(66, 30), 0);

        Walk.says("MATTERS 0 .. 5, as they come: each touches each of PEOPLE by TOUCH (0 .. 99; 0 at first), and is LIKED by each"
            + " (-9 .. 9; 0 at first);");
        VotesUntouched z = Walk.council(2, 0);
        for (int m = 0; m <= 5; m++) {
            due("matter " + m, z.matter(), m);
            due("its TOUCH at first", z.mend(10 + m, 0, 99), 0);
            due("its LIKED at first", z.mend(10 + m, 1, -9), 0);
            due("of another", z.of(m, 0) + z.of(m, 1), 0);
        }
        due("the seventh", z.matter(), FULL);
        z.person(0);
        due("TOUCH of one who comes later", z.of(25, 0), 0);
        due("LIKED of one who comes later", z.of(25, 1), 0);
        int[][] beyond = {{0, 100}, {0, -1}, {1, 10}, {1, -10}};
        for (int[] b : beyond) {
            due("mend(15, " + b[0] + ", " + b[1] + ")", z.mend(15, b[0], b[1]), Walk.VOID);
        }
        due("LIKED by 9", z.mend(15, 1, 9), -9);
        due("TOUCH 0 again", z.mend(15, 0, 0), 99);

        Walk.says("RUMOUR (0 .. 12; 12 at first): in how many of twelve it touches those that it touches at all.");
        VotesUntouched r = Walk.council(1, 1);
        Walk.likes(r, 0, 1);
        Walk.touches(r, 0, 5);
        due("RUMOUR at first", r.of(0, 20), 12);
        due("it touches always", r.chance(1, 0), 0);
        due("RUMOUR 1", r.mend(0, 2, 1), 12);
        due("it touches not in eleven", r.chance(1, 0), 11);
        due("of twelve", r.chance(1, 1), 12);
        due("RUMOUR 0", r.mend(0, 2, 0), 1);
        due("it touches never", r.chance(1, 0), 1);
        due("RUMOUR 13", r.mend(0, 2, 13), Walk.VOID);
        due("RUMOUR -1", r.mend(0, 2, -1), Walk.VOID);
        due("those that it touches not at all", Walk.council(1, 1).chance(1, 0), 0);
        due("a vote goes by no RUMOUR", r.vote(1, 0, 0), 0);
    }

    private static void bundles() {
        Walk.heading("```text");
        Walk.says("A BUNDLE: MATTERS (bits, at least one).");
        VotesUntouched x = Walk.council(1, 3);
        for (int bundle = -2; bundle <= 9; bundle++) {
            due("bundle " + bundle, x.vote(bundle, 0, 0), bundle >= 1 && bundle <= 7 ? 1 : BAD);
        }

        Walk.says("GIFTS: PEOPLE (bits), each of them is touched by 1 more by it.");
        VotesUntouched y = Walk.council(3, 1);
        Walk.touches(y, 0, 2);
        for (int gifts = -1; gifts <= 8; gifts++) {
            due("gifts " + gifts, y.vote(1, gifts, 0), gifts >= 0 && gifts <= 7 ? 6 & ~gifts : BAD);
        }
        Walk.law(y, "t");
        due("touched", y.vote(1, 2, 0), 3);
        Walk.law(y, "t=3");
        due("touched by 1 more", y.vote(1, 5, 0), 1);

        Walk.says("OWN TOUCH: the sum of TOUCH of its MATTERS (and 1 by a gift).");
        VotesUntouched z = Walk.council(1, 3);
        for (int m = 0; m < 3; m++) {
            z.mend(m, 0, new int[] {1, 20, 60}[m]);
        }
        int[][] sums = {{1, 0, 1}, {2, 0, 20}, {5, 0, 61}, {7, 0, 81}, {7, 1, 82}, {4, 1, 61}};
        for (int[] s : sums) {
            Walk.law(z, "t=" + s[2]);
            due("t=" + s[2], z.vote(s[0], s[1], 0), 1);
        }

        Walk.says("NEAR: the fewest STEPS (1 on) to another one whose OWN TOUCH is above 0; 9: none.");
        VotesUntouched n = Walk.council(5, 1);
        n.cousins(1);
        n.cousins(12);
        n.cousins(23);
        Walk.touches(n, 0, 3);
        int[] near = {9, 1, 2, 3, 9};
        for (int p = 0; p < 5; p++) {
            Walk.law(n, "p=" + p + "&k=" + near[p]);
            due("NEAR of " + p + ": " + near[p], n.vote(1, 0, 0), 1 << p);
        }
        Walk.law(n, "p=0&k=3");
        due("by a gift too", n.vote(1, 8, 0), 1);
        Walk.law(n, "p=3&k=9");
        due("to another one, a gift of its own is none", n.vote(1, 8, 0), 0);
        n.mend(0, 0, 0);
        due("none but its own", n.vote(1, 8, 0), 8);
    }

    private static void lines() {
        Walk.says("THE LAW is a TEXT by THE TAPE (at most 120 bytes): LINES, one or more, parted by ; .");
        Walk.counts("1", 1);
        Walk.counts("0?0;0?0;1", 1);
        Walk.counts("1;1", 1);
        Walk.fault(";1", 0);
        Walk.fault("1;;1", 2);
        Walk.fault("1;", 2);
        VotesUntouched x = Walk.council(1, 1);
        for (int i = 1; i <= 120; i++) {
            due("byte " + i, x.feed(i % 2 == 0 ? ';' : '1'), i);
        }
        due("byte 121", x.feed('1'), FULL);
        due("120 bytes that end too early", x.law(), -100 - 120);
        for (int i = 1; i <= 119; i++) {
            x.feed(i % 2 == 0 ? ';' : '0');
        }
        due("byte 120", x.feed('1'), 120);
        due("120 bytes", x.law(), 1);
        due("by them", x.may(0, 1, 0), 0);

        Walk.says("LINE: E, or E ? E (what counts if the first is not 0).");
        Walk.counts("7?1;0", 1);
        Walk.counts("7?0;1", 0);
        Walk.counts("0?1;0", 0);
        Walk.counts("0?0;1", 1);
        Walk.counts("-1?1", 1);
        Walk.fault("?1", 0);
        Walk.fault("1?", 2);
        Walk.fault("1?1?1", 3);
        Walk.fault("(1?1)", 2);
    }

    private static void joined() {
        Walk.says("E = A { | A }.");
        Walk.counts("0|0", 0);
        Walk.counts("0|0|3", 1);
        Walk.counts("1|1&0", 1);
        Walk.fault("0|", 2);
        Walk.fault("0||1", 2);

        Walk.says("A = B { & B }.");
        Walk.counts("1&2&3", 1);
        Walk.counts("1&2&0", 0);
        Walk.counts("0&0|1", 1);
        Walk.counts("2&2=2", 1);
        Walk.fault("1&&1", 2);

        Walk.says("B = S, or S < S, S = S, S > S.");
        int[][] twos = {{1, 2}, {2, 2}, {3, 2}};
        for (int[] t : twos) {
            Walk.counts(t[0] + "<" + t[1], t[0] < t[1] ? 1 : 0);
            Walk.counts(t[0] + "=" + t[1], t[0] == t[1] ? 1 : 0);
            Walk.counts(t[0] + ">" + t[1], t[0] > t[1] ? 1 : 0);
        }
        Walk.counts("1+1<2", 0);
        Walk.counts("4<1+4", 1);
        Walk.fault("1<2<3", 3);
        Walk.fault("1=1>0", 3);
        Walk.fault("1<=2", 2);

        Walk.says("S = P { + P, - P }.");
        Walk.worth("5-3-2", "0");
        Walk.worth("5-3+2", "4");
        Walk.worth("2-1*2", "0");
        Walk.worth("1+2*3-8/4", "5");
        Walk.fault("1+", 2);
        Walk.fault("+1", 0);

        Walk.says("P = O { * O, / O, % O }.");
        Walk.worth("8/4/2", "1");
        Walk.worth("8/4*2", "4");
        Walk.worth("7%4*2", "6");
        Walk.worth("2*7%4", "2");
        Walk.fault("2**3", 2);
    }

    private static void operands() {
        Walk.says("O = a number (1 to 4 digits), a NAME, ! O, - O, ( E ).");
        Walk.worth("9999", "9998+1");
        Walk.worth("0007", "7");
        Walk.fault("10000", 4);
        Walk.fault("1+00000", 6);
        Walk.fault("12t", 2);
        Walk.counts("t", 0);
        Walk.worth("!0*5", "5");
        Walk.worth("!0+0", "1");
        Walk.worth("!7", "0");
        Walk.worth("!!7", "1");
        Walk.worth("-2*-3", "6");
        Walk.worth("--3", "3");
        Walk.worth("-!-5-1", "-1");
        Walk.worth("(1|0)+(2>1)", "2");
        Walk.worth("((3))*(1+1)", "6");
        Walk.fault("()", 1);
        Walk.fault("(1", 2);
        Walk.fault("1)", 1);
        Walk.fault("(1))", 3);
        Walk.fault("!", 1);

        Walk.says("No blanks.");
        Walk.fault(" 1", 0);
        Walk.fault("1 ", 1);
        Walk.fault("1 + 1", 1);
        Walk.fault("1+\t1", 2);

        Walk.says("NAMES: t OWN TOUCH, k NEAR, l LIKED (all MATTERS of it together), p the PERSON, n how many MATTERS it has,"
            + " g 1 with a gift.");
        VotesUntouched x = Walk.council(3, 3);
        x.cousins(2);
        Walk.touches(x, 0, 4, 0, 0);
        Walk.touches(x, 2, 6, 0, 0);
        Walk.likes(x, 0, 1, -7, 9);
        Walk.likes(x, 1, 5, 5, 5);
        Walk.likes(x, 2, 2, -9, 9);
        int[][] names = {{10, 9, 3, 0}, {0, 9, -16, 0}, {1, 1, 18, 1}};
        for (int p = 0; p < 3; p++) {
            int[] is = names[p];
            String one = "p=" + p + "&t=" + is[0] + "&k=" + is[1] + "&l=" + is[2] + "&n=2&g=" + is[3];
            due("law \"" + one + "\"", Walk.law(x, one), 1);
            due("on {0, 2} with a gift to 2", x.vote(5, 4, 0), p == 0 ? 0 : 1 << p);
        }
        due("0 has 2, who has a gift, beside", Walk.law(x, "p=0&t=10&k=1&l=3&n=2&g=0"), 1);
        due("on {0, 2} with a gift to 2", x.vote(5, 4, 0), 1);
        for (char name = 'a'; name <= 'z'; name++) {
            due("law \"" + name + "\"", Walk.law(x, "" + name), "tklpng".indexOf(name) >= 0 ? 1 : -100);
        }
        Walk.fault("T", 0);

        Walk.says("At most 6 of ( ! - ahead of an O are open at once.");
        Walk.counts("((((((1))))))", 1);
        Walk.fault("(((((((1)))))))", 6);
        Walk.counts("!!!!!!1", 1);
        Walk.fault("!!!!!!!1", 6);
        Walk.fault("-(!-(!-1))", 6);
        Walk.fault("-(!-(!(1", 6);
        Walk.counts("-(!-(!1))+((((((2))))))", 1);
        Walk.counts("-1--1--1--1--1--1--1--1", 1);
        Walk.counts("(1)*(1)*(1)*(1)*(1)*(1)*(1)*(1)", 1);
    }

    private static void worths() {
        Walk.says("Ints that wrap;");
        Walk.worth("9999*9999*9999", "0-1027*1000*1000-349*1000-969");
        Walk.worth("2048*1024*1024-1", "-(2048*1024*1024)-1");
        Walk.counts("2048*1024*1024<0", 1);
        Walk.worth("-(2048*1024*1024)", "2048*1024*1024");
        Walk.worth("2048*1024*1024/-1", "2048*1024*1024");

        Walk.says("/ and % toward 0, by 0 they give 0;");
        Walk.worth("7/2", "3");
        Walk.worth("-7/2", "-3");
        Walk.worth("7/-2", "-3");
        Walk.worth("-7%2", "-1");
        Walk.worth("7%-2", "1");
        Walk.worth("7/0", "0");
        Walk.worth("7%0", "0");
        Walk.worth("7%0+2", "2");

        Walk.says("| & < = > ! give 1, 0;");
        Walk.worth("5|7", "1");
        Walk.worth("0|0", "0");
        Walk.worth("5&7", "1");
        Walk.worth("5&0", "0");
        Walk.worth("2<7", "1");
        Walk.worth("7<2", "0");
        Walk.worth("7=7", "1");
        Walk.worth("7=2", "0");
        Walk.worth("7>2", "1");
        Walk.worth("2>7", "0");
        Walk.worth("!0", "1");
        Walk.worth("!9", "0");

        Walk.says("all is worked out.");
        Walk.worth("1|7/0", "1");
        Walk.worth("0&7/0", "0");
        Walk.counts("1?1;7/0", 1);

        Walk.says("The first LINE without a first E, or whose first E is not 0, counts; none: 0.");
        Walk.counts("0;1", 0);
        Walk.counts("1;0", 1);
        Walk.counts("0?1;0;1", 0);
        Walk.counts("0?0;1?1;0", 1);
        Walk.counts("0?0;2?0;1", 0);
        Walk.counts("0?1", 0);
        Walk.counts("0?1;0?1;0?1", 0);

        Walk.says("FAULT: the place (from 0) of the first byte with which no TEXT goes on; the length, if it ends too early.");
        Walk.fault("", 0);
        Walk.fault("x", 0);
        Walk.fault("1x", 1);
        Walk.fault("1+x+y", 2);
        Walk.fault("((1+2", 5);
        Walk.fault("((1+2)*", 7);
        Walk.fault("1?2;3?", 6);
        Walk.fault("1?2;3;)", 6);
        Walk.fault("(1;2)", 2);
        Walk.fault("1\u00e9", 1);
        Walk.fault("1\0", 1);
    }

    private static void whoMay() {
        Walk.says("Not 0: that one MAY vote on it.");
        for (String text : new String[] {"1", "-1", "9999", "2048*1024*1024"}) {
            Walk.counts(text, 1);
        }
        Walk.counts("0", 0);
        VotesUntouched x = Walk.council(3, 1);
        Walk.law(x, "p-1");
        due("by p-1", x.vote(1, 0, 0), 5);

        Walk.says("Without a text: if t is 0 and k is above K.");
        VotesUntouched y = Walk.council(6, 1);
        for (int pair : new int[] {1, 12, 23, 34}) {
            y.cousins(pair);
        }
        Walk.touches(y, 0, 1);
        int[] may = {62, 60, 56, 48, 32};
        for (int k = 0; k <= 4; k++) {
            y.rule(0, k);
            due("K " + k, y.vote(1, 0, 0), may[k]);
        }

        Walk.says("K (0 .. 4; 1 at first), QUORUM (0 .. 10; 1 at first).");
        VotesUntouched z = Walk.council(1, 1);
        int[][] rules = {{0, 0, 1}, {0, 4, 0}, {0, 5, BAD}, {0, -1, BAD}, {0, 1, 4},
            {1, 0, 1}, {1, 10, 0}, {1, 11, BAD}, {1, -1, BAD}, {1, 1, 10}};
        for (int[] r : rules) {
            due("rule(" + r[0] + ", " + r[1] + ")", z.rule(r[0], r[1]), r[2]);
        }

        Walk.says("VOTE: of those who MAY: for it, if LIKED together is above 0, against it, if below.");
        VotesUntouched v = Walk.council(5, 2);
        Walk.likes(v, 0, 3, -3, 3, 0, 5);
        Walk.likes(v, 1, -2, 2, -3, 0, 5);
        v.mend(40, 0, 1);
        due("who MAY on both", v.vote(3, 0, 0), 15);
        due("for both", v.vote(3, 0, 1), 1);
        due("against both", v.vote(3, 0, 2), 2);
        due("for the first", v.vote(1, 0, 1), 5);
        due("against the second", v.vote(2, 0, 2), 5);
        due("for the second: 4 MAY", v.vote(2, 0, 1), 18);

        Walk.says("CARRIED: at least QUORUM MAY, and more are for than against it.");
        VotesUntouched c = Walk.council(3, 1);
        Walk.likes(c, 0, 1, 0, 0);
        for (int quorum = 0; quorum <= 10; quorum++) {
            c.rule(1, quorum);
            due("3 MAY, QUORUM " + quorum, c.vote(1, 0, 3), quorum <= 3 ? 1 : 0);
        }
        c.rule(1, 0);
        c.mend(10, 1, -1);
        due("as many against it", c.vote(1, 0, 3), 0);
        c.mend(20, 1, 1);
        due("more for it", c.vote(1, 0, 3), 1);
        due("QUORUM 0, nobody MAY", c.vote(1, 7, 3), 0);
        Walk.heading("```");
    }

    // ---- 2

    private static void found() {
        Walk.heading("======== 2");
        Walk.says("TOGETHER: of all BUNDLES with a told MATTER that are CARRIED the one with fewest MATTERS (of like ones the least"
            + " bits); NOT.");
        VotesUntouched x = Walk.council(1, 4);
        int[][] ways = {{-5, 3, 3, 0, 7}, {-5, 6, 3, 0, 3}, {-5, 6, 6, 0, 3}, {-5, 5, 6, 0, 5}, {-5, 5, 6, 9, 5}, {-5, 5, 5, 9, 9},
            {1, 9, 9, 9, 1}, {-9, 3, 3, 3, NOT}, {-8, 3, 3, 3, 15}};
        for (int[] w : ways) {
            for (int m = 0; m < 4; m++) {
                x.mend(m, 1, w[m]);
            }
            due("together(0)", x.together(0), w[4]);
        }

        Walk.says("SILENCED: of all sets of GIFTS with which a BUNDLE is CARRIED that with least FEES (of like ones the fewest, then"
            + " the least bits): it; FEES; NOT.");
        VotesUntouched a = Walk.paid(1, 9, 9, 5, 6, 12);
        Walk.likes(a, 0, 1, 1, -1, -1, -1);
        due("two of the three against it, cheapest", a.silenced(1, 0), 12);
        due("FEES", a.silenced(1, 1), 11);
        VotesUntouched b = Walk.paid(1, 1, 1, 2, 9);
        b.cousins(2);
        b.cousins(12);
        Walk.likes(b, 0, -1, -1, -1, 1);
        due("2 to the cousin of both, not 1 to either: the fewest", b.silenced(1, 0), 4);
        due("FEES", b.silenced(1, 1), 2);
        VotesUntouched c = Walk.paid(1, 9, 2, 2);
        c.cousins(12);
        Walk.likes(c, 0, 1, -1, -1);
        due("2 to the one or to its cousin: the least bits", c.silenced(1, 0), 2);
        due("FEES", c.silenced(1, 1), 2);
        VotesUntouched d = Walk.paid(1, 0, 0, 0);
        Walk.likes(d, 0, -1, 0, 1);
        due("no FEES: the fewest", d.silenced(1, 0), 1);
        due("FEES", d.silenced(1, 1), 0);
        Walk.likes(d, 0, 1, 0, 1);
        due("CARRIED by none", d.silenced(1, 0), 0);
        Walk.likes(d, 0, 0, 0, 0);
        due("by no gift", d.silenced(1, 0), NOT);
        due("its FEES", d.silenced(1, 1), NOT);

        Walk.says("LEAVE OUT: the fewest MATTERS of a BUNDLE (not all; of like ones the least bits) without which a PERSON MAY vote"
            + " on it; NOT (0: it may).");
        VotesUntouched e = Walk.council(2, 4);
        e.mend(1, 0, 1);
        due("what touches it", e.leaveOut(0, 7), 2);
        due("it may", e.leaveOut(0, 13), 0);
        e.mend(3, 0, 1);
        due("both that touch it", e.leaveOut(0, 15), 10);
        due("not all", e.leaveOut(0, 10), NOT);
        e.cousins(1);
        due("what touches its cousin", e.leaveOut(1, 14), 10);
        Walk.law(e, "n<3");
        due("any one: the least", e.leaveOut(0, 14), 2);
        due("any two: the least", e.leaveOut(0, 15), 3);
    }

    private static void parted() {
        Walk.heading("```text");
        Walk.says("ALONE: MATTERS (bits) that are CARRIED one by one.");
        VotesUntouched x = Walk.council(1, 4);
        Walk.law(x, "n=1");
        for (int m = 0; m < 4; m++) {
            x.mend(m, 1, new int[] {1, 0, -1, 9}[m]);
        }
        due("alone", x.alone(), 9);

        Walk.says("PARTED: all MATTERS parted into BUNDLES: by how most MATTERS are in BUNDLES that are CARRIED: how many; the BUNDLE"
            + " in which a MATTER is then (of all such ways that in which the BUNDLE of MATTER 0 is least by bits, then that of the"
            + " least MATTER that is not in it, and so on).");
        int[][] ways = {
            {-1, 1, 1, 1, 4, 7, 7, 7, 8}, {1, -1, 1, 1, 4, 1, 14, 14, 14}, {-3, 1, 1, 1, 3, 1, 2, 4, 8},
            {-1, -1, -1, -1, 0, 1, 2, 4, 8}, {-2, -2, 3, 3, 4, 5, 10, 5, 10}, {2, -3, 2, -3, 3, 7, 7, 7, 8},
            {-2, -9, 9, 9, 4, 15, 15, 15, 15}, {2, -1, -1, 2, 4, 3, 3, 12, 12}, {9, -9, 0, 0, 3, 13, 2, 13, 13},
        };
        for (int[] w : ways) {
            VotesUntouched y = Walk.council(1, 4);
            for (int m = 0; m < 4; m++) {
                y.mend(m, 1, w[m]);
            }
            due("how many", y.parted(-1), w[4]);
            for (int m = 0; m < 4; m++) {
                due("the bundle of " + m, y.parted(m), w[5 + m]);
            }
        }
    }

    private static void says() {
        Walk.says("SAY of a PERSON: of all BUNDLES on how many it MAY vote.");
        VotesUntouched x = Walk.council(3, 3);
        x.cousins(12);
        x.mend(1, 0, 5);
        x.mend(12, 0, 5);
        due("SAY of 0: bundles without 1", x.say(0, 0), 3);
        due("SAY of 1: without 2", x.say(1, 0), 3);
        due("SAY of 2: its cousin", x.say(2, 0), 3);
        Walk.law(x, "n=2&p=1|n>1&p=2");
        due("SAY of 0 by law", x.say(0, 0), 0);
        due("SAY of 1 by law", x.say(1, 0), 3);
        due("SAY of 2 by law", x.say(2, 0), 4);

        Walk.says("POWER: of all BUNDLES in how many it MAY vote, and CARRIED were otherwise, if it did not vote (QUORUM counts it"
            + " not then).");
        VotesUntouched y = Walk.council(3, 2);
        Walk.likes(y, 0, 1, 0, 0);
        Walk.likes(y, 1, 1, -1, 1);
        due("{0}, {1}, {0, 1} by 0", y.say(0, 1), 3);
        due("against {1} by 1: carried 2 to 1", y.say(1, 1), 0);
        due("{1}: 1 to 1 without 2, and so {0, 1}", y.say(2, 1), 2);
        y.rule(1, 3);
        due("QUORUM 3: all count", y.say(1, 1), 3);
        y.rule(1, 4);
        due("QUORUM 4", y.say(0, 1), 0);
        y.rule(1, 1);
        Walk.likes(y, 0, 1, -1, 0);
        Walk.likes(y, 1, 1, -1, 0);
        due("without who is against it: carried", y.say(1, 1), 3);
        due("without who is for it: still not", y.say(0, 1), 0);
        y.mend(10, 0, 1);
        due("{1} alone: on {0} and {0, 1} it may not", y.say(1, 1), 1);

        Walk.says("HERMIT: the PERSON with most SAY (of like ones the least number).");
        VotesUntouched z = Walk.council(4, 3);
        due("all like", z.hermit(), 0);
        z.mend(0, 0, 1);
        due("but 0", z.hermit(), 1);
        z.mend(10, 0, 1);
        z.mend(20, 0, 1);
        z.mend(21, 0, 1);
        due("3", z.hermit(), 3);
        z.mend(31, 0, 1);
        due("0, 1 and 3 like", z.hermit(), 0);
    }

    private static void chances() {
        Walk.says("CHANCE: a BUNDLE with RUMOURS: each of its MATTERS touches (all whom it touches, at once) in as many of twelve as"
            + " told, else nobody, each by itself: how likely it is CARRIED: a fraction in lowest terms (0 by 1).");
        VotesUntouched x = Walk.council(1, 2);
        Walk.likes(x, 0, 1);
        Walk.likes(x, 1, 1);
        Walk.touches(x, 0, 1);
        Walk.touches(x, 1, 1);
        x.mend(0, 2, 3);
        x.mend(1, 2, 7);
        int[][] alone = {{1, 3, 4}, {2, 5, 12}, {3, 5, 16}};
        for (int[] a : alone) {
            due("above, of bundle " + a[0], x.chance(a[0], 0), a[1]);
            due("below, of bundle " + a[0], x.chance(a[0], 1), a[2]);
        }
        x.mend(1, 2, 12);
        due("never: 0", x.chance(3, 0), 0);
        due("by 1", x.chance(3, 1), 1);
        x.mend(0, 2, 0);
        due("always: 1", x.chance(1, 0), 1);
        due("by 1", x.chance(1, 1), 1);
        VotesUntouched y = Walk.council(3, 1);
        Walk.likes(y, 0, -2, -1, 1);
        Walk.touches(y, 0, 4, 2, 0);
        y.mend(0, 2, 2);
        due("both at once: 1 by 6", y.chance(1, 0), 1);
        due("below", y.chance(1, 1), 6);
        VotesUntouched z = Walk.council(2, 2);
        Walk.likes(z, 0, 3, -1);
        Walk.likes(z, 1, 0, 0);
        Walk.touches(z, 1, 0, 8);
        z.mend(1, 2, 4);
        Walk.law(z, "n=2&l>1|t=0");
        due("not by 1 against it: 4 by 12, and it is liked as one bundle", z.chance(3, 0), 1);
        due("below", z.chance(3, 1), 3);

        Walk.says("LIES: the fewest PEOPLE of whom a mayor must say the other thing (who MAY does not, who may not does) so that"
            + " CARRIED is otherwise (of like ones the least bits): bits; NOT.");
        VotesUntouched l = Walk.council(4, 1);
        Walk.likes(l, 0, 1, -1, 1, -1);
        due("1 does not: CARRIED", l.lies(1), 2);
        Walk.touches(l, 0, 0, 0, 1, 0);
        due("2 does: as many; 1 and 2, or 1 and 3", l.lies(1), 6);
        l.mend(10, 0, 1);
        due("2 against one by 0 and 3: 2 does", l.lies(1), 4);
        Walk.likes(l, 0, 1, 1, 1, 1);
        due("CARRIED by 2: both do not", l.lies(1), 9);
        l.rule(1, 2);
        due("QUORUM 2: 0 does not", l.lies(1), 1);
        l.rule(1, 5);
        due("QUORUM 5", l.lies(1), NOT);
        due("nobody likes it", Walk.council(3, 1).lies(1), NOT);

        Walk.says("STEP: the least K (0 .. 4) with which, without THE LAW, fewer than n (1 .. 10) MAY vote on a BUNDLE; NOT.");
        VotesUntouched s = Walk.council(6, 1);
        for (int pair : new int[] {1, 12, 23, 34}) {
            s.cousins(pair);
        }
        Walk.touches(s, 0, 1);
        Walk.law(s, "0");
        s.rule(0, 3);
        int[] steps = {BAD, NOT, 4, 3, 2, 1, 0, 0, 0, 0, 0, BAD};
        for (int n = 0; n <= 11; n++) {
            due("step(1, " + n + ")", s.step(1, n), steps[n]);
        }
    }

    private static void lots() {
        Walk.says("LOTS: n times (1 .. 30) by a SEED m of PEOPLE are drawn (1 .. 10, no more than there are): z = z * 1103515245 +"
            + " 12345 (an int; SEED at first) for each, (z >>> 8) % of those that are left, which (by numbers) is drawn; all drawn"
            + " MAY vote (touched or not): how often more are for than against it.");
        // From 0 on z >>> 8 is 48, 13884438, 10945575, 14050588, 895638, 12721948, 4107618, 13442511.
        VotesUntouched x = Walk.council(3, 1);
        Walk.touches(x, 0, 9, 9, 9);
        Walk.likes(x, 0, 1, 0, 0);
        int[] firsts = {1, 2, 3, 3, 4, 4, 5, 6};
        for (int n = 1; n <= 8; n++) {
            due("0 of three, " + n + " times", x.lots(0, 100 * n + 1, 1), firsts[n - 1]);
        }
        Walk.likes(x, 0, 0, 1, 0);
        due("1 of three, 8 times", x.lots(0, 801, 1), 2);
        Walk.likes(x, 0, 0, 0, 1);
        due("2 of three, 8 times", x.lots(0, 801, 1), 0);
        // Two at a time: 0 1, 0 1, 0 1, 0 2: of the two left 13884438 % 2 is 0, then 0, 0, 1.
        due("2 drawn with another", x.lots(0, 402, 1), 1);
        Walk.likes(x, 0, 0, 1, 0);
        due("1 drawn with another", x.lots(0, 402, 1), 3);
        Walk.likes(x, 0, -1, 1, 1);
        due("against 0 with another", x.lots(0, 402, 1), 0);
        due("all three", x.lots(0, 3003, 1), 30);
        due("more than there are", x.lots(0, 104, 1), BAD);
        due("none", x.lots(0, 100, 1), BAD);
        due("31 times", x.lots(0, 3101, 1), BAD);
        due("no time", x.lots(0, 1, 1), BAD);
        VotesUntouched ten = Walk.council(10, 1);
        Walk.likes(ten, 0, 1);
        due("ten of ten", ten.lots(-7, 110, 1), 1);
        due("eleven of ten", ten.lots(-7, 111, 1), BAD);
        Walk.heading("```");
    }

    // ---- 3

    private static void years() {
        Walk.heading("======== 3");
        Walk.says("A YEAR: a ROW of shorts on a SHELF: by twos a BUNDLE, and who was silent (bits): JUDGED: the first two that is not"
            + " as it must be (no BUNDLE; silent are not just those who may not vote; a two's end that lacks); NOT.");
        VotesUntouched x = Walk.council(3, 2);
        x.cousins(1);
        Walk.touches(x, 0, 1);
        Walk.touches(x, 1, 0, 0, 1);
        long[][] rows = {{1, 3, 2, 4, 3, 7}, {1, 3, 2, 4, 3}, {1, 3, 2, 4, 0, 0}, {1, 3, 2, 4, 4, 7}, {1, 3, 2, 5}, {1, 3, 2, 0},
            {1, 11}, {1, 3 - 8}, {-1, 7}, {1}, {}};
        int[] judged = {NOT, 2, 2, 2, 1, 1, 0, 0, 0, 0, NOT};
        for (int i = 0; i < rows.length; i++) {
            due("row " + i, Walk.row(x, 0, 1, rows[i]).judge(0), judged[i]);
        }

        Walk.says("MUST: by such a ROW, for one PERSON and a MATTER: 1, if whoever was silent shows that the PERSON is touched by it:"
            + " it was silent on a BUNDLE with that MATTER, and voted on one without it that has all else of that BUNDLE (or that"
            + " MATTER alone was the BUNDLE); else 0 (THE LAW, cousins, whether the ROW is JUDGED so do not matter; twos that are"
            + " no BUNDLE, or half, do not count).");
        VotesUntouched y = Walk.council(2, 3);
        y.cousins(1);
        Walk.law(y, "1");
        // By person 0 about matter 0.
        long[][] told = {{1, 1}, {1, 2}, {3, 1, 2, 0}, {3, 1, 2, 2}, {3, 1, 2, 1}, {3, 1, 6, 0}, {3, 1, 4, 0}, {3, 1, 3, 0},
            {2, 0, 3, 1}, {7, 1, 6, 0}, {7, 1, 2, 0, 4, 0}, {3, 1}, {3, 1, 2}, {1}, {9, 1}, {3, 1, 10, 0}, {2, 1, 4, 0}, {}};
        int[] shown = {1, 0, 1, 1, 0, 1, 0, 0, 1, 1, 0, 0, 0, 0, 0, 0, 0, 0};
        for (int i = 0; i < told.length; i++) {
            due("row " + i, Walk.row(y, 0, 1, told[i]).must(0, 0), shown[i]);
        }
        due("of 1", Walk.row(y, 0, 1, 3, 2, 1, 1).must(0, 11), 1);
        due("of 0", y.must(0, 1), 0);
    }

    private static void deeds() {
        Walk.heading("```text");
        Walk.says("LED: the latest vote in deed (decide()): BUNDLE with GIFTS (paid: FEES so far);");
        VotesUntouched x = Walk.paid(3, 5, 20, 3);
        Walk.likes(x, 0, 1, -1, 0);
        due("decide(1, 0)", x.decide(1, 0), 0);
        due("a vote not in deed", x.vote(2, 1, 0), 6);
        due("its BUNDLE", x.led(0), 1);
        due("its GIFTS", x.led(1), 0);
        due("decide(5, 2)", x.decide(5, 2), 1);
        due("its BUNDLE", x.led(0), 5);
        due("its GIFTS", x.led(1), 2);
        due("FEES so far", x.led(4), 20);
        due("not carried, and paid", x.decide(2, 5), 0);
        due("FEES so far", x.led(4), 28);

        Walk.says("DECIDED: MATTERS (bits) that were CARRIED in deed; one that was is no more put.");
        due("DECIDED", x.led(3), 5);
        due("put again", x.decide(1, 0), STATE);
        due("with another", x.decide(6, 0), STATE);
        due("another", x.decide(2, 0), 0);
        due("DECIDED", x.led(3), 5);

        Walk.says("CHANGES (TOUCH, LIKED of MATTERS for PEOPLE; RUMOUR; telling the same number is none) can be UNDONE, the latest"
            + " first, and DONE AGAIN (as long as no other came behind); 40 at most are kept.");
        VotesUntouched y = Walk.council(2, 2);
        y.mend(1, 0, 8);
        y.mend(11, 1, -3);
        y.mend(1, 2, 5);
        y.mend(1, 2, 5);
        due("three CHANGES", y.count(4), 3);
        due("undo RUMOUR", y.undo(), 2);
        due("RUMOUR", y.of(1, 20), 12);
        due("undo LIKED", y.undo(), 1);
        due("LIKED", y.of(11, 1), 0);
        due("TOUCH", y.of(1, 0), 8);
        due("again", y.redo(), 1);
        due("LIKED", y.of(11, 1), -3);
        due("the same is none", y.mend(11, 1, -3), -3);
        due("again", y.redo(), 0);
        due("RUMOUR", y.of(1, 20), 5);
        due("no more", y.redo(), STATE);
        due("undo", y.undo(), 2);
        due("another", y.mend(0, 0, 1), 0);
        due("came behind", y.redo(), STATE);
        due("RUMOUR", y.of(1, 20), 12);
        VotesUntouched z = Walk.council(1, 1);
        for (int i = 1; i <= 43; i++) {
            z.mend(0, 0, i);
        }
        due("40 are kept", z.count(4), 40);
        for (int left = 39; left >= 0; left--) {
            due("undo", z.undo(), left);
        }
        due("no more", z.undo(), STATE);
        due("the third is not undone", z.of(0, 0), 3);
        for (int left = 39; left >= 0; left--) {
            due("redo", z.redo(), left);
        }
        due("the last", z.of(0, 0), 43);

        Walk.says("AN IMAGE keeps what LED tells.");
        x.image();
        int[] led = {x.led(0), x.led(1), x.led(2), x.led(3), x.led(4)};
        x.mend(1, 1, 2);
        due("decide(2, 1)", x.decide(2, 1), 0);
        x.mend(21, 1, 3);
        due("decide(2, 1)", x.decide(2, 1), 1);
        due("DECIDED", x.led(3), 7);
        x.back();
        for (int what = 0; what <= 4; what++) {
            due("led(" + what + ")", x.led(what), led[what]);
        }
        due("no LIKED", x.of(21, 1), 3);
        Walk.heading("```");
    }

    // ---- 4

    private static void voters() {
        Walk.heading("======== 4");
        Walk.says("VOTERS' ways are kept by call as BODIES 0 .. 49, of KINDS: 0 VOTER; 1 FREE under VOTER; 2 TOUCHED under VOTER; 3"
            + " COUSIN under TOUCHED; 4 MAYOR under FREE; 5 SILENT under COUSIN; 6 DRAWN under VOTER; 7 HERMIT under MAYOR.");
        int[][] above = {{0}, {1, 0}, {2, 0}, {3, 2, 0}, {4, 1, 0}, {5, 3, 2, 0}, {6, 0}, {7, 4, 1, 0}};
        VotesUntouched x = new VotesUntouched();
        for (int i = 0; i <= 49; i++) {
            due("body " + i, x.body(i % 8), i);
        }
        due("the 51st", x.body(0), FULL);
        for (int kind = 0; kind < 8; kind++) {
            x.keep(0, 8 + kind);
            for (int k = 0; k < 8; k++) {
                int taken = Walk.KIND;
                for (int a : above[kind]) {
                    taken = a == k ? kind : taken;
                }
                due("a " + kind + " taken for a " + k, x.taken(0, k), taken);
            }
        }

        Walk.says("ACTS with x (an int that wraps): 0 votes, 1 owns, 2 gives, 3 tells; n its number.");
        VotesUntouched y = new VotesUntouched();
        for (int n = 0; n < 4; n++) {
            y.body(0);
            due("votes", y.act(n, 0, 10), 10 + n);
            due("owns", y.act(n, 1, 10), 2 * (10 + n));
            due("gives", y.act(n, 2, 10), 10 ^ n);
            due("tells", y.act(n, 3, 10), 2 * (10 + n) - (1 ^ n));
        }
        due("it wraps", y.act(1, 0, Walk.MOST), Walk.LEAST);
        due("it wraps", y.act(0, 1, Walk.LEAST), 0);
    }

    /** Voter n, which is the last of n + 1 there, each of a kind: what an act answers, and which bodies ran. */
    private static void acts(int kind, int act, int x, int answer, int... ran) {
        VotesUntouched v = new VotesUntouched();
        for (int n = 0; n < 3; n++) {
            v.body(n == 2 ? kind : 0);
        }
        String call = "act " + act + " of a " + kind + " with " + x;
        due(call, v.act(2, act, x), answer);
        due(call + ": how many ran", v.count(6), ran.length);
        for (int i = 0; i < ran.length; i++) {
            due(call + ": trace(" + i + ")", v.trace(i), ran[i]);
        }
        due(call + ": behind", v.trace(ran.length), BAD);
    }

    private static void bodies() {
        // Of the voter 2, so that n is 2.
        Walk.says("BODIES of acts: VOTES (an interface of VOTER): 1 votes: x + n.");
        acts(0, 0, 5, 7, 1);
        Walk.says("VOTER: 10 owns: votes(x) * 2. 11 gives: x ^ n.");
        acts(0, 1, 5, 14, 10, 1);
        acts(0, 2, 5, 7, 11);
        Walk.says("TELLS (of VOTER): 2 tells: owns(x) - gives(1).");
        acts(0, 3, 5, 11, 2, 10, 1, 11);
        Walk.says("FREE: 20 votes: super.votes(x) + 3.");
        acts(1, 0, 5, 10, 20, 1);
        acts(1, 1, 5, 20, 10, 20, 1);
        acts(1, 3, 5, 17, 2, 10, 20, 1, 11);
        Walk.says("TOUCHED: 30 owns: -super.owns(x).");
        acts(2, 1, 5, -14, 30, 10, 1);
        acts(2, 3, 5, -17, 2, 30, 10, 1, 11);
        Walk.says("COUSIN: 40 gives: super.gives(x) * 3. 41 owns: super.owns(x + 1).");
        acts(3, 2, 5, 21, 40, 11);
        acts(3, 1, 5, -16, 41, 30, 10, 1);
        acts(3, 3, 5, -25, 2, 41, 30, 10, 1, 40, 11);
        Walk.says("MAYOR: 50 gives: super.gives(x) - votes(2).");
        acts(4, 2, 5, 0, 50, 11, 20, 1);
        acts(4, 0, 5, 10, 20, 1);
        acts(4, 3, 5, 24, 2, 10, 20, 1, 50, 11, 20, 1);
        Walk.says("SILENT: 60 tells: super.tells(x) ^ 5.");
        acts(5, 3, 5, -25 ^ 5, 60, 2, 41, 30, 10, 1, 40, 11);
        Walk.says("DRAWN: 70 votes: super.votes(x) * 2.");
        acts(6, 0, 5, 14, 70, 1);
        acts(6, 1, 5, 28, 10, 70, 1);
        Walk.says("HERMIT: 80 owns: super.owns(x) + gives(2). 81 tells: super.tells(x) - 1.");
        acts(7, 1, 5, 13, 80, 10, 20, 1, 50, 11, 20, 1);
        acts(7, 3, 5, 16, 81, 2, 80, 10, 20, 1, 50, 11, 20, 1, 50, 11, 20, 1);

        Walk.says("votes(..) and so on: the body of its own KIND, or of the next KIND above that has one;");
        acts(5, 0, 5, 7, 1);
        acts(5, 1, 5, -16, 41, 30, 10, 1);
        acts(7, 0, 5, 10, 20, 1);
        acts(7, 2, 5, 0, 50, 11, 20, 1);
        acts(6, 2, 5, 7, 11);

        Walk.says("super: from the KIND above the body's on.");
        acts(5, 2, 5, 21, 40, 11);
        acts(7, 2, 1, -4, 50, 11, 20, 1);

        Walk.says("THE TRACE: numbers of the bodies that ran in the latest act(), as they began; the first 24 are kept.");
        VotesUntouched x = new VotesUntouched();
        due("none yet", x.trace(0), BAD);
        x.body(7);
        x.body(0);
        x.act(0, 3, 1);
        due("the first of many", x.trace(0), 81);
        x.act(1, 2, 1);
        due("the first of one", x.trace(0), 11);
        due("the others are no more told", x.trace(1), BAD);
    }

    private static void shelves() {
        Walk.says("SHELVES 0 .. 5 each hold nothing (at first), a VOTER (a BODY), or a ROW: of 0 bytes, 1 shorts, 2 ints, 3 longs, 4"
            + " booleans, of 0 .. 60 elements, 0 at first (false);");
        VotesUntouched x = new VotesUntouched();
        x.body(3);
        for (int s = -1; s <= 6; s++) {
            boolean is = s >= 0 && s <= 5;
            due("nothing on " + s, x.taken(s, 0), is ? Walk.NOTHING : BAD);
            due("a VOTER on " + s, x.keep(s, 0), is ? 1 : BAD);
            due("it is there", x.taken(s, 2), is ? 3 : BAD);
            for (int sort = -1; sort <= 5; sort++) {
                due("sort " + sort, x.row(s, sort, 60), is && sort >= 0 && sort <= 4 ? 1 : BAD);
            }
            due("the first", x.element(s, 0), is ? 0 : Long.MIN_VALUE);
            due("the last", x.element(s, 59), is ? 0 : Long.MIN_VALUE);
            due("behind it", x.element(s, 60), Long.MIN_VALUE);
            due("61 elements", x.row(s, 0, 61), BAD);
            due("no element", x.row(s, 0, 0), is ? 1 : BAD);
            due("the first of none", x.put(s, 0, 1), is ? Walk.PLACE : BAD);
        }

        Walk.says("what is put in keeps its lowest bits (a boolean: whether it is not 0; 1 or 0).");
        long[] values = {0, 1, -1, 2, 127, 128, 255, 256, 40000, 65535, 65536, 1L << 31, 1L << 32, (1L << 40) + 200, Long.MAX_VALUE,
            Long.MIN_VALUE + 1};
        for (long v : values) {
            long[] kept = {(byte) v, (short) v, (int) v, v, v != 0 ? 1 : 0};
            VotesUntouched y = new VotesUntouched();
            for (int sort = 0; sort <= 4; sort++) {
                y.row(sort, sort, 2);
                due("put " + v, y.put(sort, 1, v), 1);
                due(v + " in a row of sort " + sort, y.element(sort, 1), kept[sort]);
                due("beside it", y.element(sort, 0), 0);
            }
        }

        Walk.says("The host's REFUSALS: -11 nothing is there where something is wanted; -12 it is of another kind; -13 a place that is"
            + " not there; -14 a size below 0.");
        VotesUntouched z = new VotesUntouched();
        z.body(0);
        z.keep(1, 0);
        z.row(2, 2, 3);
        due("nothing", z.put(0, 0, 1), -11);
        due("a VOTER for a ROW", z.put(1, 0, 1), -12);
        due("a ROW for a VOTER", z.taken(2, 0), -12);
        due("a ROW of ints for one of shorts", z.judge(2), -12);
        due("place 3 of 3", z.put(2, 3, 1), -13);
        due("place -1", z.put(2, -1, 1), -13);
        due("a size of -1", z.row(2, 0, -1), -14);

        Walk.says("PEOPLE FROM A ROW of bytes, from a place on: each a FEE: n of them; it ends where the row is missing, ends, one is"
            + " not so, or PEOPLE are FULL: those ahead came.");
        VotesUntouched p = new VotesUntouched();
        due("it is missing", p.people(0, 0, 3), 0);
        Walk.row(p, 0, 0, 1, 2, 3, 100, 4, 5);
        due("n of them, from place 1 on", p.people(0, 1, 2), 2);
        due("each a FEE", 100 * p.of(0, 10) + p.of(1, 10), 203);
        due("one is not so", p.people(0, 0, 10), 3);
        due("those ahead", p.count(0), 5);
        due("it ends", p.people(0, 4, 10), 2);
        due("those ahead", p.of(6, 10), 5);
        p.row(0, 0, 6);
        due("FULL", p.people(0, 0, 6), 3);
        due("those ahead", p.count(0), 10);
        due("none ahead", p.people(0, 0, 6), 0);
    }

    private static void answers() {
        Walk.says("Answers, of several the one named first: BAD (-1): no such number, or it is not as said; NOT (-2): as told; FULL"
            + " (-3); STATE (-5): as told; -11 to -14.");
        VotesUntouched x = Walk.council(10, 6);
        due("BAD ahead of FULL", x.person(100), -1);
        due("FULL", x.person(99), -3);
        due("NOT", x.together(0), -2);
        due("BAD ahead of NOT", x.together(6), -1);
        due("STATE", x.led(2), -5);
        due("BAD ahead of STATE", x.led(5), -1);
        due("BAD ahead of -14", x.row(6, 0, -1), -1);
        due("-14", x.row(5, 0, -1), -14);
        due("BAD ahead of -11", x.must(0, 106), -1);
        due("-11", x.must(0, 5), -11);
        x.row(1, 3, 1);
        due("-11 ahead of -12", x.shift(1, 0, 0, 0, 1), -11);
        x.row(0, 2, 1);
        due("-12 ahead of -13", x.shift(1, 5, 0, 0, 1), -12);
        due("-13", x.shift(1, 1, 1, 0, 1), -13);

        Walk.says("VOID is -2000000000.");
        due("VOID", x.of(60, 31), -2000000000);

        Walk.says("What is answered so changes nothing.");
        due("mend", x.mend(0, 0, 100), Walk.VOID);
        due("changes", x.count(4), 0);
        due("people", x.count(0), 10);
        due("the row is as it was", x.element(1, 0), 0);

        Walk.says("All memory is the class's own.");
        VotesUntouched one = Walk.council(1, 1);
        VotesUntouched other = Walk.council(2, 1);
        one.mend(0, 0, 5);
        one.row(0, 3, 2);
        other.row(0, 3, 2);
        one.put(0, 0, 77);
        one.feed('t');
        due("another object's TOUCH", other.of(0, 0), 0);
        due("its row", other.element(0, 0), 0);
        due("its tape", other.count(3), 0);
        due("its people", one.count(0), 1);
    }

    private static void ahead() {
        String[] told = {
            "Ahead of the calls `person`, `people`, `cousins`, `matter`, `mend`, `rule`, `of`, `feed`, `law` the interface says: ----"
                + " people, matters (pm: 10 times the PERSON and the MATTER).",
            "Ahead of the calls `may`, `vote`, `together`, `silenced`, `leaveOut`, `alone`, `parted`, `say`, `hermit`, `chance`,"
                + " `lies`, `step`, `lots` the interface says: ---- votes.",
            "Ahead of the calls `judge`, `must`, `decide`, `led`, `image`, `back`, `undo`, `redo` the interface says: ---- years,"
                + " votes in deed.",
            "Ahead of the calls `body`, `act`, `trace`, `keep`, `row`, `put`, `element`, `shift`, `taken`, `count` the interface"
                + " says: ---- acts, shelves.",
        };
        for (String words : told) {
            Walk.says(words);
            String[] parts = words.split("`");
            for (int i = 1; i < parts.length; i += 2) {
                int found = 0;
                for (java.lang.reflect.Method m : VotesUntouched.class.getMethods()) {
                    found += m.getName().equals(parts[i]) ? 1 : 0;
                }
                due(parts[i], found, 1);
            }
        }
        VotesUntouched x = Walk.council(3, 4);
        due("pm", x.mend(23, 0, 6), 0);
        Walk.law(x, "t=6");
        due("is PERSON 2 and MATTER 3", x.vote(8, 0, 0), 4);
    }
}
