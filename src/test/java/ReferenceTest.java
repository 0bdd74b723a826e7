import java.math.BigInteger;
import java.util.ArrayDeque;
import java.util.ArrayList;
import java.util.Arrays;
import java.util.Collections;
import java.util.Comparator;
import java.util.List;
import java.util.Random;
import java.util.TreeSet;

/** Long runs of calls, each answered by the class and by a slow model that is written another way. */
public final class ReferenceTest {
    private static final int BAD = -1, NOT = -2, FULL = -3, STATE = -5, VOID = -2000000000;
    private static final int RUNS = 1500;
    private static final int CALLS = 500;

    // ---- voters as Java's own classes

    private static final List<Integer> ran = new ArrayList<>();

    private static void begin(int number) {
        ran.add(number);
    }

    private interface Votes {
        int n();

        default int votes(int x) {
            begin(1);
            return x + n();
        }
    }

    private interface Tells {
        int owns(int x);

        int gives(int x);

        default int tells(int x) {
            begin(2);
            int owned = owns(x);
            return owned - gives(1);
        }
    }

    private static class Voter implements Votes, Tells {
        int number;

        public int n() {
            return number;
        }

        public int owns(int x) {
            begin(10);
            return votes(x) * 2;
        }

        public int gives(int x) {
            begin(11);
            return x ^ number;
        }
    }

    private static class Free extends Voter {
        public int votes(int x) {
            begin(20);
            return super.votes(x) + 3;
        }
    }

    private static class Touched extends Voter {
        public int owns(int x) {
            begin(30);
            return -super.owns(x);
        }
    }

    private static class Cousin extends Touched {
        public int gives(int x) {
            begin(40);
            return super.gives(x) * 3;
        }

        public int owns(int x) {
            begin(41);
            return super.owns(x + 1);
        }
    }

    private static class Mayor extends Free {
        public int gives(int x) {
            begin(50);
            int given = super.gives(x);
            return given - votes(2);
        }
    }

    private static class Silent extends Cousin {
        public int tells(int x) {
            begin(60);
            return super.tells(x) ^ 5;
        }
    }

    private static class Drawn extends Voter {
        public int votes(int x) {
            begin(70);
            return super.votes(x) * 2;
        }
    }

    private static class Hermit extends Mayor {
        public int owns(int x) {
            begin(80);
            int owned = super.owns(x);
            return owned + gives(2);
        }

        public int tells(int x) {
            begin(81);
            return super.tells(x) - 1;
        }
    }

    private static final Class<?>[] KINDS = {
        Voter.class, Free.class, Touched.class, Cousin.class, Mayor.class, Silent.class, Drawn.class, Hermit.class
    };

    private static Voter newVoter(int kind) {
        switch (kind) {
            case 0: return new Voter();
            case 1: return new Free();
            case 2: return new Touched();
            case 3: return new Cousin();
            case 4: return new Mayor();
            case 5: return new Silent();
            case 6: return new Drawn();
            default: return new Hermit();
        }
    }

    // ---- the grammar, by sets of places where a part may end

    private static final class Grammar {
        final String s;
        boolean wantsMore;

        Grammar(String s) {
            this.s = s;
        }

        boolean at(int i, String letters) {
            if (i >= s.length()) {
                wantsMore = true;
                return false;
            }
            return letters.indexOf(s.charAt(i)) >= 0;
        }

        TreeSet<Integer> part(String name, int from, int open) {
            TreeSet<Integer> ends = new TreeSet<>();
            switch (name) {
                case "TEXT": repeat("LINE", ";", from, open, ends, 1000); break;
                case "LINE":
                    for (int e : part("E", from, open)) {
                        ends.add(e);
                        if (at(e, "?")) {
                            ends.addAll(part("E", e + 1, open));
                        }
                    }
                    break;
                case "E": repeat("A", "|", from, open, ends, 1000); break;
                case "A": repeat("B", "&", from, open, ends, 1000); break;
                case "B": repeat("S", "<=>", from, open, ends, 1); break;
                case "S": repeat("P", "+-", from, open, ends, 1000); break;
                case "P": repeat("O", "*/%", from, open, ends, 1000); break;
                default: operand(from, open, ends);
            }
            return ends;
        }

        void repeat(String name, String signs, int from, int open, TreeSet<Integer> ends, int times) {
            TreeSet<Integer> now = part(name, from, open);
            for (int i = 0; !now.isEmpty(); i++) {
                ends.addAll(now);
                TreeSet<Integer> next = new TreeSet<>();
                if (i < times) {
                    for (int e : now) {
                        if (at(e, signs)) {
                            next.addAll(part(name, e + 1, open));
                        }
                    }
                }
                now = next;
            }
        }

        void operand(int from, int open, TreeSet<Integer> ends) {
            if (at(from, "tklpng")) {
                ends.add(from + 1);
            }
            for (int i = from; i < from + 4 && at(i, "0123456789"); i++) {
                ends.add(i + 1);
            }
            if (open == 6) {
                return;
            }
            if (at(from, "!-")) {
                ends.addAll(part("O", from + 1, open + 1));
            }
            if (at(from, "(")) {
                for (int e : part("E", from + 1, open + 1)) {
                    if (at(e, ")")) {
                        ends.add(e + 1);
                    }
                }
            }
        }
    }

    /** -1: a text. */
    static int faultOf(String s) {
        for (int i = 1; i <= s.length(); i++) {
            Grammar g = new Grammar(s.substring(0, i));
            boolean whole = g.part("TEXT", 0, 0).contains(i);
            if (!whole && !g.wantsMore) {
                return i - 1;
            }
        }
        return new Grammar(s).part("TEXT", 0, 0).contains(s.length()) ? -1 : s.length();
    }

    // ---- what a text is worth, by cutting it at its outermost signs

    private static int worth(String s, int[] names) {
        for (String line : cut(s, ";")) {
            List<String> two = cut(line, "?");
            if (two.size() == 1) {
                return value(two.get(0), names);
            }
            if (value(two.get(0), names) != 0) {
                return value(two.get(1), names);
            }
        }
        return 0;
    }

    /** Cuts at signs that stand in no bracket and behind an operand. */
    private static List<String> cut(String s, String signs) {
        List<String> parts = new ArrayList<>();
        int depth = 0;
        int from = 0;
        boolean behind = false;
        for (int i = 0; i < s.length(); i++) {
            char c = s.charAt(i);
            if (c == '(') {
                depth++;
                behind = false;
            } else if (c == ')') {
                depth--;
                behind = true;
            } else if (depth == 0 && behind && signs.indexOf(c) >= 0) {
                parts.add(s.substring(from, i));
                from = i + 1;
                behind = false;
            } else {
                behind = Character.isLetterOrDigit(c);
            }
        }
        parts.add(s.substring(from));
        return parts;
    }

    private static final String[] LEVELS = {"|", "&", "<=>", "+-", "*/%"};

    private static int value(String s, int[] names) {
        for (String signs : LEVELS) {
            List<String> parts = cut(s, signs);
            if (parts.size() > 1) {
                int v = value(parts.get(0), names);
                int at = parts.get(0).length();
                for (String p : parts.subList(1, parts.size())) {
                    v = joined(s.charAt(at), v, value(p, names));
                    at += 1 + p.length();
                }
                return v;
            }
        }
        char c = s.charAt(0);
        if (c == '!') {
            return value(s.substring(1), names) == 0 ? 1 : 0;
        }
        if (c == '-') {
            return -value(s.substring(1), names);
        }
        if (c == '(') {
            return value(s.substring(1, s.length() - 1), names);
        }
        return Character.isDigit(c) ? Integer.parseInt(s) : names["tklpng".indexOf(c)];
    }

    private static int joined(char sign, int a, int b) {
        switch (sign) {
            case '|': return (a != 0) | (b != 0) ? 1 : 0;
            case '&': return (a != 0) & (b != 0) ? 1 : 0;
            case '<': return a < b ? 1 : 0;
            case '=': return a == b ? 1 : 0;
            case '>': return a > b ? 1 : 0;
            case '+': return a + b;
            case '-': return a - b;
            case '*': return a * b;
            case '/': return b == 0 ? 0 : (int) ((long) a / b);
            default: return b == 0 ? 0 : (int) ((long) a % b);
        }
    }

    // ---- the council

    private static final Comparator<Integer> FEWEST =
        Comparator.<Integer>comparingInt(Integer::bitCount).thenComparing(Comparator.naturalOrder());

    private static final class Model {
        final List<Integer> fees = new ArrayList<>();
        final List<int[]> pairs = new ArrayList<>();
        final List<int[]> touch = new ArrayList<>();
        final List<int[]> liked = new ArrayList<>();
        final List<Integer> rumour = new ArrayList<>();
        final ArrayDeque<int[]> undo = new ArrayDeque<>();
        final ArrayDeque<int[]> redo = new ArrayDeque<>();
        int[][] far = new int[10][10];
        int k = 1;
        int quorum = 1;
        final StringBuilder tape = new StringBuilder();
        String law;
        int[] led;
        int decided;
        int paid;
        Object[] image;
        final List<Voter> voters = new ArrayList<>();
        final Object[] shelves = new Object[6];

        boolean isPerson(int p) {
            return p >= 0 && p < fees.size();
        }

        boolean isMatter(int m) {
            return m >= 0 && m < touch.size();
        }

        boolean isBundle(int b) {
            return b > 0 && b < 1 << touch.size();
        }

        boolean isGifts(int g) {
            return g >= 0 && g < 1 << fees.size();
        }

        boolean isPm(int pm) {
            return pm >= 0 && isPerson(pm / 10) && isMatter(pm % 10);
        }

        int person(int fee) {
            if (fee < 0 || fee > 99) {
                return BAD;
            }
            if (fees.size() == 10) {
                return FULL;
            }
            fees.add(fee);
            return fees.size() - 1;
        }

        int people(int shelf, int i, int n) {
            if (shelf < 0 || shelf > 5 || n < 1 || n > 10) {
                return BAD;
            }
            int came = 0;
            try {
                byte[] row = (byte[]) shelves[shelf];
                for (int j = 0; j < n; j++) {
                    if (person(row[i + j]) < 0) {
                        break;
                    }
                    came++;
                }
            } catch (ClassCastException e) {
                return -12;
            } catch (NullPointerException | ArrayIndexOutOfBoundsException e) {
                return came;
            }
            return came;
        }

        int cousins(int ab) {
            if (ab < 0 || !isPerson(ab / 10) || !isPerson(ab % 10) || ab / 10 == ab % 10) {
                return BAD;
            }
            int a = ab / 10;
            int b = ab % 10;
            for (int[] p : pairs) {
                if (p[0] == a && p[1] == b || p[0] == b && p[1] == a) {
                    return BAD;
                }
            }
            if (pairs.size() == 12) {
                return FULL;
            }
            pairs.add(new int[] {a, b});
            walkAll();
            return pairs.size();
        }

        void walkAll() {
            for (int[] row : far) {
                Arrays.fill(row, 0);
            }
            for (int from = 0; from < 10; from++) {
                TreeSet<Integer> seen = new TreeSet<>(List.of(from));
                TreeSet<Integer> now = new TreeSet<>(seen);
                for (int d = 1; !now.isEmpty(); d++) {
                    TreeSet<Integer> next = new TreeSet<>();
                    for (int[] p : pairs) {
                        if (now.contains(p[0])) {
                            next.add(p[1]);
                        }
                        if (now.contains(p[1])) {
                            next.add(p[0]);
                        }
                    }
                    next.removeAll(seen);
                    for (int to : next) {
                        far[from][to] = d;
                    }
                    seen.addAll(next);
                    now = next;
                }
            }
        }

        int steps(int a, int b) {
            return a == b ? 0 : far[a][b] == 0 ? 9 : far[a][b];
        }

        int matter() {
            if (touch.size() == 6) {
                return FULL;
            }
            touch.add(new int[10]);
            liked.add(new int[10]);
            rumour.add(12);
            return touch.size() - 1;
        }

        int mend(int pm, int what, int v) {
            boolean fine = what == 0 ? isPm(pm) && v >= 0 && v <= 99
                : what == 1 ? isPm(pm) && v >= -9 && v <= 9
                : what == 2 && isMatter(pm) && v >= 0 && v <= 12;
            if (!fine) {
                return VOID;
            }
            int was = set(pm, what, v);
            if (was != v) {
                undo.push(new int[] {pm, what, was, v});
                redo.clear();
                if (undo.size() > 40) {
                    undo.removeLast();
                }
            }
            return was;
        }

        int set(int pm, int what, int v) {
            if (what == 2) {
                return rumour.set(pm, v);
            }
            int[] row = (what == 0 ? touch : liked).get(pm % 10);
            int was = row[pm / 10];
            row[pm / 10] = v;
            return was;
        }

        int undo() {
            if (undo.isEmpty()) {
                return STATE;
            }
            int[] c = undo.pop();
            redo.push(c);
            set(c[0], c[1], c[2]);
            return undo.size();
        }

        int redo() {
            if (redo.isEmpty()) {
                return STATE;
            }
            int[] c = redo.pop();
            undo.push(c);
            set(c[0], c[1], c[3]);
            return redo.size();
        }

        int rule(int what, int v) {
            int was = BAD;
            if (what == 0 && v >= 0 && v <= 4) {
                was = k;
                k = v;
            } else if (what == 1 && v >= 0 && v <= 10) {
                was = quorum;
                quorum = v;
            }
            return was;
        }

        int of(int number, int what) {
            if (what == 0 && isPm(number)) {
                return touch.get(number % 10)[number / 10];
            }
            if (what == 1 && isPm(number)) {
                return liked.get(number % 10)[number / 10];
            }
            if (what == 10 && isPerson(number)) {
                return fees.get(number);
            }
            if (what == 20 && isMatter(number)) {
                return rumour.get(number);
            }
            if (what == 30 && number >= 0 && isPerson(number / 10) && isPerson(number % 10)) {
                return steps(number / 10, number % 10);
            }
            return VOID;
        }

        int feed(int letter) {
            if (letter < 0 || letter > 255) {
                return BAD;
            }
            if (tape.length() == 120) {
                return FULL;
            }
            tape.append((char) letter);
            return tape.length();
        }

        int law() {
            String s = tape.toString();
            tape.setLength(0);
            int fault = faultOf(s);
            if (fault >= 0) {
                return -100 - fault;
            }
            law = s;
            return 1;
        }

        boolean may(int p, int bundle, int touching, int gifts, String text, int reach) {
            int own = 0;
            int near = 9;
            int like = 0;
            for (int q = 0; q < fees.size(); q++) {
                int t = gifts >> q & 1;
                for (int m = 0; m < touch.size(); m++) {
                    t += (touching >> m & 1) * touch.get(m)[q];
                }
                if (q == p) {
                    own = t;
                } else if (t > 0) {
                    near = Math.min(near, steps(p, q));
                }
            }
            if (text == null) {
                return own == 0 && near > reach;
            }
            for (int m = 0; m < touch.size(); m++) {
                like += (bundle >> m & 1) * liked.get(m)[p];
            }
            return worth(text, new int[] {own, near, like, p, Integer.bitCount(bundle), gifts >> p & 1}) != 0;
        }

        int mayBits(int bundle, int touching, int gifts) {
            int bits = 0;
            for (int p = 0; p < fees.size(); p++) {
                bits |= may(p, bundle, touching, gifts, law, k) ? 1 << p : 0;
            }
            return bits;
        }

        int mayBits(int bundle, int gifts) {
            return mayBits(bundle, bundle, gifts);
        }

        int sign(int p, int bundle) {
            int like = 0;
            for (int m = 0; m < touch.size(); m++) {
                like += (bundle >> m & 1) * liked.get(m)[p];
            }
            return Integer.signum(like);
        }

        int leaning(int who, int bundle, int sign) {
            int bits = 0;
            for (int p = 0; p < fees.size(); p++) {
                bits |= (who >> p & 1) != 0 && sign(p, bundle) == sign ? 1 << p : 0;
            }
            return bits;
        }

        int lead(int who, int bundle) {
            return Integer.bitCount(leaning(who, bundle, 1)) - Integer.bitCount(leaning(who, bundle, -1));
        }

        boolean carried(int who, int bundle) {
            return Integer.bitCount(who) >= quorum && lead(who, bundle) > 0;
        }

        boolean carried(int bundle) {
            return carried(mayBits(bundle, 0), bundle);
        }

        int mayOne(int person, int bundle, int gifts) {
            if (!isPerson(person) || !isBundle(bundle) || !isGifts(gifts)) {
                return BAD;
            }
            return may(person, bundle, bundle, gifts, law, k) ? 1 : 0;
        }

        int vote(int bundle, int gifts, int what) {
            if (!isBundle(bundle) || !isGifts(gifts) || what < 0 || what > 3) {
                return BAD;
            }
            int who = mayBits(bundle, gifts);
            return what == 0 ? who : what == 1 ? leaning(who, bundle, 1) : what == 2 ? leaning(who, bundle, -1)
                : carried(who, bundle) ? 1 : 0;
        }

        List<Integer> bundles() {
            List<Integer> all = new ArrayList<>();
            for (int b = 1; b < 1 << touch.size(); b++) {
                all.add(b);
            }
            return all;
        }

        int together(int matter) {
            if (!isMatter(matter)) {
                return BAD;
            }
            List<Integer> all = bundles();
            all.sort(FEWEST);
            for (int b : all) {
                if ((b >> matter & 1) == 1 && carried(b)) {
                    return b;
                }
            }
            return NOT;
        }

        int cost(int gifts) {
            int sum = 0;
            for (int p = 0; p < fees.size(); p++) {
                sum += (gifts >> p & 1) * fees.get(p);
            }
            return sum;
        }

        int silenced(int bundle, int what) {
            if (!isBundle(bundle) || what < 0 || what > 1) {
                return BAD;
            }
            List<Integer> all = new ArrayList<>();
            for (int g = 0; g < 1 << fees.size(); g++) {
                all.add(g);
            }
            all.sort(Comparator.<Integer>comparingInt(this::cost).thenComparing(FEWEST));
            for (int g : all) {
                if (carried(mayBits(bundle, g), bundle)) {
                    return what == 0 ? g : cost(g);
                }
            }
            return NOT;
        }

        int leaveOut(int person, int bundle) {
            if (!isPerson(person) || !isBundle(bundle)) {
                return BAD;
            }
            List<Integer> all = new ArrayList<>();
            for (int b = 0; b < 64; b++) {
                if ((b & bundle) == b && b != bundle) {
                    all.add(b);
                }
            }
            all.sort(FEWEST);
            for (int out : all) {
                if (may(person, bundle ^ out, bundle ^ out, 0, law, k)) {
                    return out;
                }
            }
            return NOT;
        }

        int alone() {
            int bits = 0;
            for (int m = 0; m < touch.size(); m++) {
                bits += carried(1 << m) ? 1 << m : 0;
            }
            return bits;
        }

        int parted(int matter) {
            if (matter != -1 && !isMatter(matter)) {
                return BAD;
            }
            boolean[] won = new boolean[64];
            for (int b : bundles()) {
                won[b] = carried(b);
            }
            List<List<Integer>> ways = new ArrayList<>();
            partings(0, new ArrayList<>(), ways);
            Comparator<List<Integer>> byBits = (a, b) -> {
                for (int i = 0; i < a.size() && i < b.size(); i++) {
                    if (!a.get(i).equals(b.get(i))) {
                        return a.get(i) - b.get(i);
                    }
                }
                return a.size() - b.size();
            };
            Comparator<List<Integer>> byCount = Comparator.comparingInt(w -> -winnings(w, won));
            List<Integer> best = Collections.min(ways, byCount.thenComparing(byBits));
            if (matter == -1) {
                return winnings(best, won);
            }
            for (int b : best) {
                if ((b >> matter & 1) == 1) {
                    return b;
                }
            }
            throw new IllegalStateException();
        }

        int winnings(List<Integer> way, boolean[] won) {
            int sum = 0;
            for (int b : way) {
                sum += won[b] ? Integer.bitCount(b) : 0;
            }
            return sum;
        }

        /** Each matter joins a bundle that is there, or begins one: bundles stand by their least matter. */
        void partings(int m, List<Integer> way, List<List<Integer>> ways) {
            if (m == touch.size()) {
                ways.add(new ArrayList<>(way));
                return;
            }
            for (int i = 0; i < way.size(); i++) {
                way.set(i, way.get(i) | 1 << m);
                partings(m + 1, way, ways);
                way.set(i, way.get(i) & ~(1 << m));
            }
            way.add(1 << m);
            partings(m + 1, way, ways);
            way.remove(way.size() - 1);
        }

        int say(int person, int what) {
            if (!isPerson(person) || what < 0 || what > 1) {
                return BAD;
            }
            int sum = 0;
            for (int b : bundles()) {
                int who = mayBits(b, 0);
                if ((who >> person & 1) == 1) {
                    sum += what == 0 || carried(who, b) != carried(who - (1 << person), b) ? 1 : 0;
                }
            }
            return sum;
        }

        int hermit() {
            int best = STATE;
            for (int p = fees.size() - 1; p >= 0; p--) {
                if (best < 0 || say(p, 0) >= say(best, 0)) {
                    best = p;
                }
            }
            return best;
        }

        int chance(int bundle, int part) {
            if (!isBundle(bundle) || part < 0 || part > 1) {
                return BAD;
            }
            BigInteger below = BigInteger.valueOf(12).pow(touch.size());
            BigInteger above = chanceFrom(bundle, 0, 0);
            BigInteger shared = above.gcd(below);
            return (part == 0 ? above : below).divide(shared).intValueExact();
        }

        /** Of 12 to the number of matters; one that is not in the bundle counts twelve times. */
        BigInteger chanceFrom(int bundle, int m, int touching) {
            if (m == touch.size()) {
                return carried(mayBits(bundle, touching, 0), bundle) ? BigInteger.ONE : BigInteger.ZERO;
            }
            if ((bundle >> m & 1) == 0) {
                return chanceFrom(bundle, m + 1, touching).multiply(BigInteger.valueOf(12));
            }
            BigInteger r = BigInteger.valueOf(rumour.get(m));
            return chanceFrom(bundle, m + 1, touching | 1 << m).multiply(r)
                .add(chanceFrom(bundle, m + 1, touching).multiply(BigInteger.valueOf(12).subtract(r)));
        }

        int lies(int bundle) {
            if (!isBundle(bundle)) {
                return BAD;
            }
            int who = mayBits(bundle, 0);
            List<Integer> all = new ArrayList<>();
            for (int s = 0; s < 1 << fees.size(); s++) {
                all.add(s);
            }
            all.sort(FEWEST);
            for (int s : all) {
                if (carried(who ^ s, bundle) != carried(who, bundle)) {
                    return s;
                }
            }
            return NOT;
        }

        int step(int bundle, int n) {
            if (!isBundle(bundle) || n < 1 || n > 10) {
                return BAD;
            }
            for (int reach = 0; reach <= 4; reach++) {
                int free = 0;
                for (int p = 0; p < fees.size(); p++) {
                    free += may(p, bundle, bundle, 0, null, reach) ? 1 : 0;
                }
                if (free < n) {
                    return reach;
                }
            }
            return NOT;
        }

        int lots(int seed, int nm, int bundle) {
            int n = Math.floorDiv(nm, 100);
            int m = Math.floorMod(nm, 100);
            if (!isBundle(bundle) || n < 1 || n > 30 || m < 1 || m > 10 || m > fees.size()) {
                return BAD;
            }
            int often = 0;
            int z = seed;
            for (int i = 0; i < n; i++) {
                List<Integer> left = new ArrayList<>();
                for (int p = 0; p < fees.size(); p++) {
                    left.add(p);
                }
                int drawn = 0;
                for (int j = 0; j < m; j++) {
                    z = z * 1103515245 + 12345;
                    drawn |= 1 << left.remove((z >>> 8) % left.size());
                }
                often += lead(drawn, bundle) > 0 ? 1 : 0;
            }
            return often;
        }

        int judge(int shelf) {
            if (shelf < 0 || shelf > 5) {
                return BAD;
            }
            if (shelves[shelf] == null) {
                return -11;
            }
            if (!(shelves[shelf] instanceof short[])) {
                return -12;
            }
            short[] row = (short[]) shelves[shelf];
            for (int i = 0; i < row.length; i += 2) {
                boolean right = i + 1 < row.length && isBundle(row[i])
                    && row[i + 1] + mayBits(row[i], 0) == (1 << fees.size()) - 1
                    && (row[i + 1] & mayBits(row[i], 0)) == 0;
                if (!right) {
                    return i / 2;
                }
            }
            return NOT;
        }

        int must(int shelf, int pm) {
            if (shelf < 0 || shelf > 5 || !isPm(pm)) {
                return BAD;
            }
            if (shelves[shelf] == null) {
                return -11;
            }
            if (!(shelves[shelf] instanceof short[])) {
                return -12;
            }
            short[] row = (short[]) shelves[shelf];
            int p = pm / 10;
            int m = pm % 10;
            for (int i = 0; i + 1 < row.length; i += 2) {
                boolean silent = isBundle(row[i]) && (row[i] >> m & 1) == 1 && (row[i + 1] >> p & 1) == 1;
                if (silent && row[i] == 1 << m) {
                    return 1;
                }
                for (int j = 0; silent && j + 1 < row.length; j += 2) {
                    boolean voted = isBundle(row[j]) && (row[j + 1] >> p & 1) == 0;
                    if (voted && (row[j] >> m & 1) == 0 && ((row[j] | 1 << m) & row[i]) == row[i]) {
                        return 1;
                    }
                }
            }
            return 0;
        }

        int decide(int bundle, int gifts) {
            if (!isBundle(bundle) || !isGifts(gifts)) {
                return BAD;
            }
            if ((bundle & decided) != 0) {
                return STATE;
            }
            int c = carried(mayBits(bundle, gifts), bundle) ? 1 : 0;
            led = new int[] {bundle, gifts, c};
            paid += cost(gifts);
            decided += c * bundle;
            return c;
        }

        int led(int what) {
            if (what == 3) {
                return decided;
            }
            if (what == 4) {
                return paid;
            }
            return what < 0 || what > 4 ? BAD : led == null ? STATE : led[what];
        }

        int image() {
            image = new Object[] {led, decided, paid};
            return decided;
        }

        int back() {
            if (image == null) {
                return STATE;
            }
            led = (int[]) image[0];
            decided = (Integer) image[1];
            paid = (Integer) image[2];
            return decided;
        }

        int body(int kind) {
            if (kind < 0 || kind > 7) {
                return BAD;
            }
            if (voters.size() == 50) {
                return FULL;
            }
            Voter v = newVoter(kind);
            v.number = voters.size();
            voters.add(v);
            return v.number;
        }

        int act(int body, int act, int x) {
            ran.clear();
            if (body < 0 || body >= voters.size()) {
                return 0;
            }
            Voter v = voters.get(body);
            return act == 0 ? v.votes(x) : act == 1 ? v.owns(x) : act == 2 ? v.gives(x) : act == 3 ? v.tells(x) : 0;
        }

        int trace(int i) {
            return i < 0 || i >= Math.min(24, ran.size()) ? BAD : ran.get(i);
        }

        int keep(int shelf, int body) {
            if (shelf < 0 || shelf > 5 || body < -1 || body >= voters.size()) {
                return BAD;
            }
            shelves[shelf] = body == -1 ? null : voters.get(body);
            return 1;
        }

        int row(int shelf, int sort, int n) {
            if (shelf < 0 || shelf > 5 || sort < 0 || sort > 4 || n > 60) {
                return BAD;
            }
            try {
                switch (sort) {
                    case 0: shelves[shelf] = new byte[n]; break;
                    case 1: shelves[shelf] = new short[n]; break;
                    case 2: shelves[shelf] = new int[n]; break;
                    case 3: shelves[shelf] = new long[n]; break;
                    default: shelves[shelf] = new boolean[n];
                }
            } catch (NegativeArraySizeException e) {
                return -14;
            }
            return 1;
        }

        int put(int shelf, int i, long v) {
            if (shelf < 0 || shelf > 5) {
                return BAD;
            }
            Object o = shelves[shelf];
            try {
                if (o instanceof byte[]) {
                    ((byte[]) o)[i] = (byte) v;
                } else if (o instanceof short[]) {
                    ((short[]) o)[i] = (short) v;
                } else if (o instanceof int[]) {
                    ((int[]) o)[i] = (int) v;
                } else if (o instanceof long[]) {
                    ((long[]) o)[i] = v;
                } else if (o instanceof boolean[]) {
                    ((boolean[]) o)[i] = v != 0;
                } else {
                    return o == null ? -11 : -12;
                }
            } catch (ArrayIndexOutOfBoundsException e) {
                return -13;
            }
            return 1;
        }

        long element(int shelf, int i) {
            if (shelf < 0 || shelf > 5) {
                return Long.MIN_VALUE;
            }
            Object o = shelves[shelf];
            try {
                return o instanceof boolean[] ? (((boolean[]) o)[i] ? 1 : 0) : java.lang.reflect.Array.getLong(o, i);
            } catch (NullPointerException | IllegalArgumentException | ArrayIndexOutOfBoundsException e) {
                return Long.MIN_VALUE;
            }
        }

        int shift(int shelf, int i, int other, int j, int n) {
            if (shelf < 0 || shelf > 5 || other < 0 || other > 5) {
                return BAD;
            }
            try {
                System.arraycopy(shelves[shelf], i, shelves[other], j, n);
                return n;
            } catch (NullPointerException e) {
                return -11;
            } catch (ArrayStoreException e) {
                return -12;
            } catch (IndexOutOfBoundsException e) {
                return -13;
            }
        }

        int taken(int shelf, int kind) {
            if (shelf < 0 || shelf > 5 || kind < 0 || kind > 7) {
                return BAD;
            }
            Object o = shelves[shelf];
            if (o == null) {
                return -11;
            }
            return KINDS[kind].isInstance(o) ? Arrays.asList(KINDS).indexOf(o.getClass()) : -12;
        }

        int count(int what) {
            int[] all = {
                fees.size(), touch.size(), pairs.size(), tape.length(), undo.size(), voters.size(), ran.size()
            };
            return what < 0 || what >= all.length ? BAD : all[what];
        }
    }

    // ---- random runs

    private static final class Run {
        final Random random;
        final VotesUntouched x = new VotesUntouched();
        final Model m = new Model();
        final List<String> calls = new ArrayList<>();
        // How the run is minded: how many touches, how far numbers go astray.
        final int stray;
        boolean wrong;

        Run(long seed) {
            random = new Random(seed);
            ran.clear();
            stray = random.nextInt(3) == 0 ? 6 : 40;
        }

        void due(String call, long got, long want) {
            calls.add(call + " = " + want);
            if (got != want && !wrong) {
                wrong = true;
                System.out.println(String.join("\n", calls) + "\nanswered " + got);
            }
        }

        int upTo(int n) {
            return n <= 0 ? random.nextInt(2) - 1 : random.nextInt(n);
        }

        int number(int n) {
            if (random.nextInt(stray) != 0) {
                return upTo(n);
            }
            int[] odd = {-1, n, n + 1, -2, 10, 100, Integer.MAX_VALUE, Integer.MIN_VALUE, -10, 64, 1024};
            return odd[random.nextInt(odd.length)];
        }

        int bundle() {
            int n = 1 << m.touch.size();
            return random.nextInt(stray) == 0 ? number(n) : 1 + upTo(n - 1);
        }

        int gifts() {
            return random.nextInt(2) == 0 ? 0 : number(1 << m.fees.size());
        }

        int pm() {
            return random.nextInt(stray) == 0 ? number(100)
                : 10 * upTo(m.fees.size()) + Math.max(0, upTo(m.touch.size()));
        }

        void begin() {
            int people = random.nextInt(4) == 0 ? random.nextInt(11) : 3 + random.nextInt(4);
            for (int i = 0; i < people; i++) {
                int fee = random.nextInt(3) == 0 ? random.nextInt(3) : random.nextInt(100);
                due("person(" + fee + ")", x.person(fee), m.person(fee));
            }
            int matters = random.nextInt(5);
            for (int i = 0; i < matters; i++) {
                due("matter()", x.matter(), m.matter());
            }
            int pairs = random.nextInt(9);
            for (int i = 0; i < pairs; i++) {
                int ab = 10 * upTo(people) + Math.max(0, upTo(people));
                due("cousins(" + ab + ")", x.cousins(ab), m.cousins(ab));
            }
            for (int i = 0; i < 10 * matters * people / 8; i++) {
                mend();
            }
        }

        void mend() {
            int what = random.nextInt(10) == 0 ? number(3) : random.nextInt(3) == 0 ? 0 : 1;
            int pm = what == 2 ? number(m.touch.size()) : pm();
            int v = random.nextInt(stray) == 0 ? number(100)
                : what == 1 ? random.nextInt(19) - 9
                : what == 0 ? (random.nextInt(2) == 0 ? 0 : random.nextInt(100)) : random.nextInt(13);
            due("mend(" + pm + ", " + what + ", " + v + ")", x.mend(pm, what, v), m.mend(pm, what, v));
        }

        String text(String part, int depth) {
            switch (part) {
                case "TEXT": return chain("LINE", ";", depth, 3);
                case "LINE": return text("E", depth) + (random.nextBoolean() ? "" : "?" + text("E", depth));
                case "E": return chain("A", "|", depth, 4);
                case "A": return chain("B", "&", depth, 4);
                case "B": return text("S", depth) + (random.nextInt(2) == 0 ? "" : sign("<=>") + text("S", depth));
                case "S": return chain("P", "+-", depth, 4);
                case "P": return chain("O", "*/%", depth, 4);
                default:
                    int kind = random.nextInt(depth > 5 ? 10 : 14);
                    if (kind < 6) {
                        return sign("tklpng");
                    }
                    if (kind < 10) {
                        return "" + random.nextInt(random.nextInt(3) == 0 ? 10000 : 10);
                    }
                    return kind == 10 ? "!" + text("O", depth + 1) : kind == 11 ? "-" + text("O", depth + 1)
                        : "(" + text("E", depth + 1) + ")";
            }
        }

        String sign(String signs) {
            return "" + signs.charAt(random.nextInt(signs.length()));
        }

        String chain(String part, String signs, int depth, int rarely) {
            StringBuilder s = new StringBuilder(text(part, depth));
            while (random.nextInt(rarely) == 0) {
                s.append(sign(signs)).append(text(part, depth));
            }
            return s.toString();
        }

        void law() {
            StringBuilder s = new StringBuilder(text("TEXT", 0));
            int kind = random.nextInt(5);
            if (kind == 0) {
                s.insert(random.nextInt(s.length() + 1), sign("tklpng019()!-+*/%<=>&|?; x"));
            } else if (kind == 1) {
                s.setLength(random.nextInt(s.length() + 1));
            } else if (kind == 2) {
                s.setCharAt(random.nextInt(s.length()), sign("tklpng019()!-+*/%<=>&|?;\u00e9").charAt(0));
            }
            if (s.length() > 60 && random.nextInt(4) != 0) {
                return;
            }
            for (int i = 0; i < s.length(); i++) {
                int c = s.charAt(i);
                due("feed(" + c + ")", x.feed(c), m.feed(c));
            }
            due("law()", x.law(), m.law());
        }

        void call() {
            int people = m.fees.size();
            int matters = m.touch.size();
            switch (random.nextInt(40)) {
                case 0: if (random.nextInt(3) == 0) { int a = number(100); due("person(" + a + ")", x.person(a), m.person(a)); } break;
                case 1: { int s = number(6), i = number(12), n = number(11); due("people(" + s + ", " + i + ", " + n + ")", x.people(s, i, n), m.people(s, i, n)); break; }
                case 2: { int ab = random.nextInt(4) == 0 ? number(100) : 10 * upTo(people) + Math.max(0, upTo(people)); due("cousins(" + ab + ")", x.cousins(ab), m.cousins(ab)); break; }
                case 3: if (random.nextInt(6) == 0) { due("matter()", x.matter(), m.matter()); } break;
                case 4: mend(); break;
                case 5: { int w = number(2), v = w == 1 ? number(random.nextInt(2) == 0 ? 11 : 3) : number(5); due("rule(" + w + ", " + v + ")", x.rule(w, v), m.rule(w, v)); break; }
                case 6: { int[] ws = {0, 1, 10, 20, 30, 2, -1, 40}; int w = ws[random.nextInt(8)], n = w == 10 ? number(people) : w == 20 ? number(matters) : w == 30 ? number(10 * people) : pm(); due("of(" + n + ", " + w + ")", x.of(n, w), m.of(n, w)); break; }
                case 7: { int c = number(256); if (random.nextInt(20) == 0) { due("feed(" + c + ")", x.feed(c), m.feed(c)); due("law()", x.law(), m.law()); } break; }
                case 8: if (random.nextInt(4) == 0) { law(); } break;
                case 9: { int p = number(people), b = bundle(), g = gifts(); due("may(" + p + ", " + b + ", " + g + ")", x.may(p, b, g), m.mayOne(p, b, g)); break; }
                case 10: { int b = bundle(), g = gifts(), w = number(4); due("vote(" + b + ", " + g + ", " + w + ")", x.vote(b, g, w), m.vote(b, g, w)); break; }
                case 11: { int a = number(matters); due("together(" + a + ")", x.together(a), m.together(a)); break; }
                case 12: if (random.nextInt(people > 7 ? 20 : 2) == 0) { int b = bundle(), w = number(2); due("silenced(" + b + ", " + w + ")", x.silenced(b, w), m.silenced(b, w)); } break;
                case 13: { int p = number(people), b = bundle(); due("leaveOut(" + p + ", " + b + ")", x.leaveOut(p, b), m.leaveOut(p, b)); break; }
                case 14: due("alone()", x.alone(), m.alone()); break;
                case 15: { int a = random.nextInt(3) == 0 ? -1 : number(matters); due("parted(" + a + ")", x.parted(a), m.parted(a)); break; }
                case 16: { int p = number(people), w = number(2); due("say(" + p + ", " + w + ")", x.say(p, w), m.say(p, w)); break; }
                case 17: if (random.nextInt(3) == 0) { due("hermit()", x.hermit(), m.hermit()); } break;
                case 18: { int b = bundle(), w = number(2); due("chance(" + b + ", " + w + ")", x.chance(b, w), m.chance(b, w)); break; }
                case 19: { int b = bundle(); due("lies(" + b + ")", x.lies(b), m.lies(b)); break; }
                case 20: { int b = bundle(), n = random.nextInt(3) == 0 ? number(12) : 1 + upTo(people); due("step(" + b + ", " + n + ")", x.step(b, n), m.step(b, n)); break; }
                case 21: { int s = random.nextInt(), nm = random.nextInt(stray) == 0 ? number(5000) : 100 * (1 + random.nextInt(30)) + 1 + Math.max(0, upTo(people)), b = bundle(); due("lots(" + s + ", " + nm + ", " + b + ")", x.lots(s, nm, b), m.lots(s, nm, b)); break; }
                case 22: { int s = number(6); due("judge(" + s + ")", x.judge(s), m.judge(s)); break; }
                case 23: { int s = number(6), pm = pm(); due("must(" + s + ", " + pm + ")", x.must(s, pm), m.must(s, pm)); break; }
                case 24: { int b = bundle(), g = gifts(); due("decide(" + b + ", " + g + ")", x.decide(b, g), m.decide(b, g)); break; }
                case 25: { int w = number(5); due("led(" + w + ")", x.led(w), m.led(w)); break; }
                case 26: if (random.nextInt(3) == 0) { due("image()", x.image(), m.image()); } break;
                case 27: if (random.nextInt(3) == 0) { due("back()", x.back(), m.back()); } break;
                case 28: due("undo()", x.undo(), m.undo()); break;
                case 29: due("redo()", x.redo(), m.redo()); break;
                case 30: { int k = number(8); due("body(" + k + ")", x.body(k), m.body(k)); break; }
                case 31: act(); break;
                case 32: { int i = number(16); due("trace(" + i + ")", x.trace(i), m.trace(i)); break; }
                case 33: { int s = number(6), b = random.nextInt(5) == 0 ? -1 : number(m.voters.size()); due("keep(" + s + ", " + b + ")", x.keep(s, b), m.keep(s, b)); break; }
                case 34: row(); break;
                case 35: { int s = number(6), i = number(8); long v = random.nextLong() >> random.nextInt(64); due("put(" + s + ", " + i + ", " + v + ")", x.put(s, i, v), m.put(s, i, v)); break; }
                case 36: { int s = number(6), i = number(8); due("element(" + s + ", " + i + ")", x.element(s, i), m.element(s, i)); break; }
                case 37: shift(); break;
                case 38: { int s = number(6), k = number(8); due("taken(" + s + ", " + k + ")", x.taken(s, k), m.taken(s, k)); break; }
                default: { int w = number(7); due("count(" + w + ")", x.count(w), m.count(w)); break; }
            }
        }

        void act() {
            int b = number(m.voters.size());
            int a = number(4);
            int v = random.nextInt() >> random.nextInt(32);
            due("act(" + b + ", " + a + ", " + v + ")", x.act(b, a, v), m.act(b, a, v));
            for (int i = 0; random.nextBoolean() && i < 24; i++) {
                due("trace(" + i + ")", x.trace(i), m.trace(i));
            }
            due("count(6)", x.count(6), m.count(6));
        }

        /** A row, and what stands in it: often a year, or fees. */
        void row() {
            int s = number(6);
            int sort = random.nextInt(3) == 0 ? 1 : number(5);
            int n = random.nextInt(8) == 0 ? number(61) : number(9);
            due("row(" + s + ", " + sort + ", " + n + ")", x.row(s, sort, n), m.row(s, sort, n));
            boolean right = random.nextInt(3) != 0;
            int bundle = 1;
            for (int i = 0; i < n && i < 12; i++) {
                long v = random.nextInt(130) - 5;
                if (sort == 1 && i % 2 == 0) {
                    bundle = bundle();
                    v = bundle;
                } else if (sort == 1) {
                    v = right && m.isBundle(bundle) ? (1 << m.fees.size()) - 1 - m.mayBits(bundle, 0) : random.nextInt(1024);
                } else if (sort == 0 && right) {
                    v = random.nextInt(100);
                }
                due("put(" + s + ", " + i + ", " + v + ")", x.put(s, i, v), m.put(s, i, v));
            }
            if (sort == 1) {
                due("judge(" + s + ")", x.judge(s), m.judge(s));
                int pm = pm();
                due("must(" + s + ", " + pm + ")", x.must(s, pm), m.must(s, pm));
            }
        }

        void shift() {
            int s = number(6);
            int o = random.nextInt(2) == 0 ? s : number(6);
            int i = number(6);
            int j = number(6);
            int n = number(5);
            due("shift(" + s + ", " + i + ", " + o + ", " + j + ", " + n + ")", x.shift(s, i, o, j, n), m.shift(s, i, o, j, n));
            for (int k = 0; k < 6; k++) {
                due("element(" + o + ", " + k + ")", x.element(o, k), m.element(o, k));
            }
        }
    }

    public static void main(String[] args) {
        int runs = args.length > 0 ? Integer.parseInt(args[0]) : RUNS;
        long calls = 0;
        int wrong = 0;
        for (int seed = 0; seed < runs; seed++) {
            Run run = new Run(seed);
            run.begin();
            while (run.calls.size() < CALLS - 140 && !run.wrong) {
                run.call();
            }
            calls += run.calls.size();
            wrong += run.wrong ? 1 : 0;
            if (wrong > 2) {
                break;
            }
        }
        System.out.println(runs + " runs, " + calls + " calls, " + wrong + " runs wrong");
        if (wrong != 0) {
            System.exit(1);
        }
    }
}
