/** Promises 11 to 23: votes. */
final class WalkOfVotes {
    private static final int BAD = Walk.BAD, NOT = Walk.NOT, STATE = Walk.STATE;
    private static final int LEAST = Walk.LEAST, MOST = Walk.MOST;
    // Neither of four people and three matters, nor bundles or gifts of them.
    private static final int[] NO_PERSONS = {-1, 4, LEAST, MOST};
    private static final int[] NO_MATTERS = {-1, 3, 6, LEAST, MOST};
    private static final int[] NO_BUNDLES = {0, 8, -1, LEAST, MOST};
    private static final int[] NO_GIFTS = {-1, 16, LEAST, MOST};

    private WalkOfVotes() {
    }

    private static void due(String call, long got, long want) {
        Walk.due(call, got, want);
    }

    static void test() {
        may();
        vote();
        together();
        silenced();
        leaveOut();
        alone();
        parted();
        say();
        hermit();
        chance();
        lies();
        step();
        lots();
    }

    /**
     * Four people by FEES 5, 2, 2, 7, of whom 0 and 1 are cousins; matter 0 touches 0, matter 1 touches 3, by
     * RUMOUR 6, matter 2 nobody. So on 1, 2, 4, 3, 5, 6, 7 MAY vote {2, 3}, {0, 1, 2}, all, {2}, {2, 3},
     * {0, 1, 2}, {2}.
     */
    private static VotesUntouched some() {
        VotesUntouched x = Walk.paid(3, 5, 2, 2, 7);
        x.cousins(1);
        x.mend(0, 0, 3);
        x.mend(31, 0, 1);
        x.mend(1, 2, 6);
        Walk.likes(x, 0, 0, 4, 1, -1);
        Walk.likes(x, 1, 2, -2, -3, 5);
        Walk.likes(x, 2, -1, 3, -1, 1);
        return x;
    }

    private static void may() {
        Walk.heading("## Promise 11: may `int may(int person, int bundle, int gifts)`:");
        Walk.says("A PERSON MAY vote on a BUNDLE with GIFTS: 1, 0. BAD.");
        VotesUntouched x = some();
        int[] who = {0, 12, 7, 4, 15, 12, 7, 4};
        for (int bundle = 1; bundle <= 7; bundle++) {
            for (int p = 0; p < 4; p++) {
                due("may(" + p + ", " + bundle + ", 0)", x.may(p, bundle, 0), who[bundle] >> p & 1);
            }
        }
        due("a gift to its cousin", x.may(0, 4, 2), 0);
        due("a gift to another", x.may(0, 4, 12), 1);
        for (int person : NO_PERSONS) {
            due("may(" + person + ", 1, 0)", x.may(person, 1, 0), BAD);
        }
        for (int bundle : NO_BUNDLES) {
            due("may(0, " + bundle + ", 0)", x.may(0, bundle, 0), BAD);
        }
        for (int gifts : NO_GIFTS) {
            due("may(0, 1, " + gifts + ")", x.may(0, 1, gifts), BAD);
        }
    }

    private static void vote() {
        Walk.heading("## Promise 12: vote `int vote(int bundle, int gifts, int what)`:");
        Walk.says("VOTE on a BUNDLE with GIFTS: who MAY (what 0), is for it (1), against it (2), as bits; CARRIED (3: 1, 0). BAD.");
        VotesUntouched x = some();
        // Liked together: 1: 0 4 1 -1; 2: 2 -2 -3 5; 4: -1 3 -1 1; 3: 2 2 -2 4; 5: -1 7 0 0; 6: 1 1 -4 6; 7: 1 5 -3 5.
        int[][] votes = {{1, 0, 12, 4, 8, 0}, {2, 0, 7, 1, 6, 0}, {4, 0, 15, 10, 5, 0}, {3, 0, 4, 0, 4, 0}, {5, 0, 12, 0, 0, 0},
            {6, 0, 7, 3, 4, 1}, {7, 0, 4, 0, 4, 0}, {4, 4, 11, 10, 1, 1}, {1, 8, 4, 4, 0, 1}, {2, 4, 3, 1, 2, 0}};
        for (int[] v : votes) {
            for (int what = 0; what <= 3; what++) {
                due("vote(" + v[0] + ", " + v[1] + ", " + what + ")", x.vote(v[0], v[1], what), v[2 + what]);
            }
        }
        for (int what : new int[] {-1, 4, LEAST, MOST}) {
            due("vote(1, 0, " + what + ")", x.vote(1, 0, what), BAD);
        }
        for (int bundle : NO_BUNDLES) {
            due("vote(" + bundle + ", 0, 0)", x.vote(bundle, 0, 0), BAD);
        }
        for (int gifts : NO_GIFTS) {
            due("vote(1, " + gifts + ", 0)", x.vote(1, gifts, 0), BAD);
        }
    }

    private static void together() {
        Walk.heading("## Promise 13: together `int together(int matter)`:");
        Walk.says("TOGETHER. BAD; NOT.");
        VotesUntouched x = some();
        due("together(0)", x.together(0), NOT);
        due("together(1)", x.together(1), 6);
        due("together(2)", x.together(2), 6);
        for (int matter : NO_MATTERS) {
            due("together(" + matter + ")", x.together(matter), BAD);
        }
    }

    private static void silenced() {
        Walk.heading("## Promise 14: silenced `int silenced(int bundle, int what)`:");
        Walk.says("SILENCED: GIFTS (what 0), FEES (1). BAD; NOT.");
        VotesUntouched x = some();
        // 1: 2 for, 3 against: 3. 2: 0 for, 1 and 2 against: 1 takes 0 with it. 3: 2 against. 4: 0, or 2. 5: nobody for.
        int[][] gifts = {{1, 8, 7}, {2, NOT, NOT}, {3, NOT, NOT}, {4, 4, 2}, {5, NOT, NOT}, {6, 0, 0}, {7, NOT, NOT}};
        for (int[] g : gifts) {
            due("silenced(" + g[0] + ", 0)", x.silenced(g[0], 0), g[1]);
            due("silenced(" + g[0] + ", 1)", x.silenced(g[0], 1), g[2]);
        }
        for (int bundle : NO_BUNDLES) {
            due("silenced(" + bundle + ", 0)", x.silenced(bundle, 0), BAD);
        }
        for (int what : new int[] {-1, 2, LEAST, MOST}) {
            due("silenced(2, " + what + ")", x.silenced(2, what), BAD);
        }
    }

    private static void leaveOut() {
        Walk.heading("## Promise 15: leaveOut `int leaveOut(int person, int bundle)`:");
        Walk.says("LEAVE OUT, as bits. BAD; NOT.");
        VotesUntouched x = some();
        int[][] out = {{0, 7, 1}, {1, 3, 1}, {2, 7, 0}, {3, 7, 2}, {3, 2, NOT}, {0, 1, NOT}, {0, 6, 0}, {3, 6, 2}};
        for (int[] o : out) {
            due("leaveOut(" + o[0] + ", " + o[1] + ")", x.leaveOut(o[0], o[1]), o[2]);
        }
        for (int person : NO_PERSONS) {
            due("leaveOut(" + person + ", 1)", x.leaveOut(person, 1), BAD);
        }
        for (int bundle : NO_BUNDLES) {
            due("leaveOut(0, " + bundle + ")", x.leaveOut(0, bundle), BAD);
        }
    }

    private static void alone() {
        Walk.heading("## Promise 16: alone `int alone()`:");
        Walk.says("ALONE, as bits.");
        VotesUntouched x = some();
        due("alone()", x.alone(), 0);
        x.mend(30, 1, 0);
        due("0 by 2", x.alone(), 1);
        x.mend(21, 1, 7);
        x.mend(2, 1, 0);
        due("1 by 0 and 2, 2 by 1 and 3", x.alone(), 7);
        x.rule(1, 4);
        due("QUORUM 4", x.alone(), 4);
    }

    private static void parted() {
        Walk.heading("## Promise 17: parted `int parted(int matter)`:");
        Walk.says("PARTED: how many (matter -1), the BUNDLE of a MATTER. BAD.");
        VotesUntouched x = some();
        due("parted(-1)", x.parted(-1), 2);
        due("parted(0)", x.parted(0), 1);
        due("parted(1)", x.parted(1), 6);
        due("parted(2)", x.parted(2), 6);
        for (int matter : new int[] {-2, 3, 6, LEAST, MOST}) {
            due("parted(" + matter + ")", x.parted(matter), BAD);
        }
        x.mend(30, 1, 0);
        due("0 by 2", x.parted(-1), 3);
        due("parted(0)", x.parted(0), 1);
        due("no matter", new VotesUntouched().parted(-1), 0);
    }

    private static void say() {
        Walk.heading("## Promise 18: say `int say(int person, int what)`:");
        Walk.says("SAY (what 0), POWER (1) of a PERSON. BAD.");
        VotesUntouched x = some();
        // CARRIED is {1, 2} alone. Otherwise without: on 1: 3. On 2: nobody. On 4: 0, 2. On 6: 0, 1, not 2.
        int[][] says = {{3, 2}, {3, 1}, {7, 1}, {3, 1}};
        for (int p = 0; p < 4; p++) {
            due("say(" + p + ", 0)", x.say(p, 0), says[p][0]);
            due("say(" + p + ", 1)", x.say(p, 1), says[p][1]);
        }
        for (int person : NO_PERSONS) {
            due("say(" + person + ", 0)", x.say(person, 0), BAD);
        }
        for (int what : new int[] {-1, 2, LEAST, MOST}) {
            due("say(0, " + what + ")", x.say(0, what), BAD);
        }
    }

    private static void hermit() {
        Walk.heading("## Promise 19: hermit `int hermit()`:");
        Walk.says("HERMIT. STATE: nobody.");
        due("2 may on all", some().hermit(), 2);
        due("nobody", Walk.council(0, 3).hermit(), STATE);
        due("no matter", Walk.council(3, 0).hermit(), 0);
    }

    private static void chance() {
        Walk.heading("## Promise 20: chance `int chance(int bundle, int part)`:");
        Walk.says("CHANCE: part 0 above, 1 below the line. BAD.");
        VotesUntouched x = some();
        // Of 6 {0, 1, 2} MAY, or all four: 2 for, 2 against, or 3 for.
        due("chance(6, 0)", x.chance(6, 0), 1);
        due("chance(6, 1)", x.chance(6, 1), 1);
        x.mend(31, 1, -9);
        due("0 and 1 for it, 2 against it, 3 too in six of twelve", x.chance(6, 0), 1);
        due("below", x.chance(6, 1), 2);
        due("chance(1, 0)", x.chance(1, 0), 0);
        due("chance(1, 1)", x.chance(1, 1), 1);
        for (int bundle : NO_BUNDLES) {
            due("chance(" + bundle + ", 0)", x.chance(bundle, 0), BAD);
        }
        for (int part : new int[] {-1, 2, LEAST, MOST}) {
            due("chance(1, " + part + ")", x.chance(1, part), BAD);
        }
    }

    private static void lies() {
        Walk.heading("## Promise 21: lies `int lies(int bundle)`:");
        Walk.says("LIES, as bits. BAD; NOT.");
        VotesUntouched x = some();
        // 1: 1 does, or 3 does not. 2: 1 and 2 do not. 4: 0, or 2 does not. 6: 0, or 1 does not, or 3 does.
        int[][] lies = {{1, 2}, {2, 6}, {4, 1}, {6, 1}};
        for (int[] l : lies) {
            due("lies(" + l[0] + ")", x.lies(l[0]), l[1]);
        }
        for (int bundle : NO_BUNDLES) {
            due("lies(" + bundle + ")", x.lies(bundle), BAD);
        }
        x.rule(1, 5);
        due("lies(1) with QUORUM 5", x.lies(1), NOT);
    }

    private static void step() {
        Walk.heading("## Promise 22: step `int step(int bundle, int n)`:");
        Walk.says("STEP. BAD; NOT.");
        VotesUntouched x = some();
        int[][] steps = {{1, 4, 0}, {1, 3, 1}, {1, 2, NOT}, {2, 4, 0}, {2, 3, NOT}, {4, 4, NOT}, {4, 5, 0}, {7, 2, 1}, {7, 3, 0},
            {7, 1, NOT}, {4, 10, 0}};
        for (int[] s : steps) {
            due("step(" + s[0] + ", " + s[1] + ")", x.step(s[0], s[1]), s[2]);
        }
        for (int bundle : NO_BUNDLES) {
            due("step(" + bundle + ", 1)", x.step(bundle, 1), BAD);
        }
        for (int n : new int[] {0, 11, -1, LEAST, MOST}) {
            due("step(1, " + n + ")", x.step(1, n), BAD);
        }
    }

    private static void lots() {
        Walk.heading("## Promise 23: lots `int lots(int seed, int nm, int bundle)`:");
        Walk.says("LOTS (nm: 100 n and m). BAD.");
        VotesUntouched x = some();
        // From 1 on z >>> 8 is 4310654, 9862832, 2589156, 12872603: % 4 is 2, 0, 0, 3; % 4, % 3, % 4, % 3 is 2, 2, 0, 2.
        due("2: for it", x.lots(1, 101, 1), 1);
        due("2, 0: 0 likes it not, nor not", x.lots(1, 201, 1), 1);
        due("2, 0, 0, 3", x.lots(1, 401, 1), 1);
        due("the same of 2: against, for, for, for", x.lots(1, 401, 2), 3);
        due("2 and 3: for and against", x.lots(1, 102, 1), 0);
        due("then 0 and 3", x.lots(1, 202, 2), 1);
        for (int nm : new int[] {0, 1, 100, 105, 110, 3101, -101, 3000, LEAST, MOST}) {
            due("lots(1, " + nm + ", 1)", x.lots(1, nm, 1), BAD);
        }
        for (int bundle : NO_BUNDLES) {
            due("lots(1, 101, " + bundle + ")", x.lots(1, 101, bundle), BAD);
        }
        due("the most", x.lots(LEAST, 3004, 6), 30);
        due("nobody to draw", Walk.council(0, 1).lots(1, 101, 1), BAD);
    }
}
