/**
 * A council that votes only with those whom a matter does not touch.
 *
 * The promises are told in ../shared/DOC.md. Every row is made in a constructor and used
 * again, so that no call makes an object: all calls of a run live in one room.
 */
public final class VotesUntouched {
    public static final int BAD = -1, NOT = -2, FULL = -3, STATE = -5, VOID = -2000000000;

    private static final int NOTHING_THERE = -11;
    private static final int OTHER_KIND = -12;
    private static final int NO_PLACE = -13;
    private static final int SIZE_BELOW_ZERO = -14;

    private static final int MOST_PEOPLE = 10;
    private static final int MOST_MATTERS = 6;
    private static final int MOST_BUNDLES = 64;
    private static final int MOST_FEE = 99;
    // What element() answers where it is refused: the least long, by its number.
    private static final long NO_ELEMENT = -9223372036854775808L;

    private final Council council;
    private final Changes changes;
    private final Reader reader;
    private final Code text;
    private final Ballot ballot;
    private final Finder finder;
    private final Shelves shelves;
    private final Years years;
    private final Deeds deeds;
    private final Voters voters;

    public VotesUntouched() {
        council = new Council();
        changes = new Changes(council);
        reader = new Reader();
        text = new Code();
        ballot = new Ballot(council, text);
        finder = new Finder(council, ballot);
        shelves = new Shelves();
        years = new Years(council, ballot, shelves);
        deeds = new Deeds();
        voters = new Voters();
    }

    // ---- people, matters (pm: 10 times the PERSON and the MATTER)

    public int person(int fee) {
        if (!isFee(fee)) {
            return BAD;
        }
        return council.addPerson(fee);
    }

    public int people(int shelf, int i, int n) {
        if (!shelves.isShelf(shelf) || n < 1 || n > MOST_PEOPLE) {
            return BAD;
        }
        if (shelves.held(shelf) == Shelves.NOTHING) {
            return 0;
        }
        if (shelves.held(shelf) != Shelves.BYTES) {
            return OTHER_KIND;
        }
        int came = 0;
        while (came < n && comesFrom(shelf, i + came)) {
            came++;
        }
        return came;
    }

    private boolean comesFrom(int shelf, int place) {
        if (!shelves.hasPlace(shelf, place)) {
            return false;
        }
        int fee = (int) shelves.valueAt(shelf, place);
        return isFee(fee) && council.addPerson(fee) >= 0;
    }

    private static boolean isFee(int fee) {
        return fee >= 0 && fee <= MOST_FEE;
    }

    public int cousins(int ab) {
        if (!council.isTwo(ab)) {
            return BAD;
        }
        return council.addPair(ab / 10, ab % 10);
    }

    public int matter() {
        return council.addMatter();
    }

    public int mend(int pm, int what, int v) {
        int slot = council.slotOf(pm, what);
        if (slot < 0 || v < Council.leastOf(what) || v > Council.mostOf(what)) {
            return VOID;
        }
        return changes.make(slot, v);
    }

    public int rule(int what, int v) {
        if (v < 0) {
            return BAD;
        }
        if (what == 0 && v <= Finder.MOST_REACH) {
            int was = council.reach;
            council.reach = v;
            return was;
        }
        if (what == 1 && v <= MOST_PEOPLE) {
            int was = council.quorum;
            council.quorum = v;
            return was;
        }
        return BAD;
    }

    public int of(int number, int what) {
        switch (what) {
            case 0:
            case 1:
                return toldOrVoid(council.slotOf(number, what));
            case 10:
                return council.isPerson(number) ? council.feeOf(number) : VOID;
            case 20:
                return toldOrVoid(council.slotOf(number, Council.RUMOUR));
            case 30:
                return council.isTwo(number) ? council.stepsOf(number / 10, number % 10) : VOID;
            default:
                return VOID;
        }
    }

    private int toldOrVoid(int slot) {
        return slot < 0 ? VOID : council.toldAt(slot);
    }

    public int feed(int letter) {
        if (letter < 0 || letter > 255) {
            return BAD;
        }
        return reader.take(letter);
    }

    public int law() {
        int fault = reader.read();
        if (fault >= 0) {
            return -100 - fault;
        }
        text.becomes(reader.draft);
        return 1;
    }

    // ---- votes

    public int may(int person, int bundle, int gifts) {
        if (!council.isPerson(person) || !isPut(bundle, gifts)) {
            return BAD;
        }
        return ballot.whoMay(bundle, bundle, gifts) >>> person & 1;
    }

    public int vote(int bundle, int gifts, int what) {
        if (!isPut(bundle, gifts)) {
            return BAD;
        }
        switch (what) {
            case 0:
                return ballot.whoMay(bundle, bundle, gifts);
            case 1:
                return ballot.whoMay(bundle, bundle, gifts) & ballot.fans(bundle);
            case 2:
                return ballot.whoMay(bundle, bundle, gifts) & ballot.foes(bundle);
            case 3:
                return ballot.isCarried(bundle, gifts) ? 1 : 0;
            default:
                return BAD;
        }
    }

    private boolean isPut(int bundle, int gifts) {
        return council.isBundle(bundle) && council.isGifts(gifts);
    }

    public int together(int matter) {
        if (!council.isMatter(matter)) {
            return BAD;
        }
        return finder.smallestCarriedWith(matter);
    }

    public int silenced(int bundle, int what) {
        if (!council.isBundle(bundle) || what < 0 || what > 1) {
            return BAD;
        }
        int gifts = finder.cheapestGifts(bundle);
        return gifts < 0 || what == 0 ? gifts : council.feesOf(gifts);
    }

    public int leaveOut(int person, int bundle) {
        if (!council.isPerson(person) || !council.isBundle(bundle)) {
            return BAD;
        }
        return finder.fewestLeftOut(person, bundle);
    }

    public int alone() {
        return finder.carriedAlone();
    }

    public int parted(int matter) {
        if (matter != -1 && !council.isMatter(matter)) {
            return BAD;
        }
        finder.part();
        return matter == -1 ? finder.mostCarried() : finder.partOf(matter);
    }

    public int say(int person, int what) {
        if (!council.isPerson(person)) {
            return BAD;
        }
        switch (what) {
            case 0:
                return finder.sayOf(person);
            case 1:
                return finder.powerOf(person);
            default:
                return BAD;
        }
    }

    public int hermit() {
        return council.people == 0 ? STATE : finder.mostSaying();
    }

    public int chance(int bundle, int part) {
        if (!council.isBundle(bundle) || part < 0 || part > 1) {
            return BAD;
        }
        int above = finder.twelfthsCarried(bundle);
        int below = Finder.twelfths(bundle);
        int shared = Finder.commonDivisor(above, below);
        if (shared < 1) {
            return BAD;
        }
        return (part == 0 ? above : below) / shared;
    }

    public int lies(int bundle) {
        return council.isBundle(bundle) ? finder.fewestLies(bundle) : BAD;
    }

    public int step(int bundle, int n) {
        if (!council.isBundle(bundle) || n < 1 || n > MOST_PEOPLE) {
            return BAD;
        }
        return finder.stepWithFewer(bundle, n);
    }

    public int lots(int seed, int nm, int bundle) {
        if (nm < 0 || !council.isBundle(bundle)) {
            return BAD;
        }
        int times = nm / 100;
        int drawn = nm % 100;
        if (times < 1 || times > Finder.MOST_LOTS || drawn < 1 || drawn > council.people) {
            return BAD;
        }
        return finder.oftenCarriedByLot(seed, times, drawn, bundle);
    }

    // ---- years, votes in deed

    public int judge(int shelf) {
        int refused = shelves.refusedAsRow(shelf, Shelves.SHORTS);
        if (refused != 0) {
            return refused;
        }
        return years.firstWrong(shelf);
    }

    public int must(int shelf, int pm) {
        if (council.slotOf(pm, Council.TOUCH) < 0) {
            return BAD;
        }
        int refused = shelves.refusedAsRow(shelf, Shelves.SHORTS);
        if (refused != 0) {
            return refused;
        }
        return years.isShown(shelf, pm / 10, pm % 10) ? 1 : 0;
    }

    public int decide(int bundle, int gifts) {
        if (!isPut(bundle, gifts)) {
            return BAD;
        }
        if ((deeds.decided() & bundle) != 0) {
            return STATE;
        }
        int carried = ballot.isCarried(bundle, gifts) ? 1 : 0;
        deeds.enter(bundle, gifts, carried, council.feesOf(gifts));
        return carried;
    }

    public int led(int what) {
        if (what < 0 || what > Deeds.FEES) {
            return BAD;
        }
        return what <= Deeds.CARRIED && !deeds.isAny() ? STATE : deeds.told(what);
    }

    public int image() {
        deeds.keepImage();
        return deeds.decided();
    }

    public int back() {
        return deeds.goBack() ? deeds.decided() : STATE;
    }

    public int undo() {
        return changes.takeBack() ? changes.undoable() : STATE;
    }

    public int redo() {
        return changes.makeAgain() ? changes.redoable() : STATE;
    }

    // ---- acts, shelves

    public int body(int kind) {
        return Voters.isKind(kind) ? voters.add(kind) : BAD;
    }

    public int act(int body, int act, int x) {
        return voters.perform(body, act, x);
    }

    public int trace(int i) {
        return voters.ranAt(i);
    }

    public int keep(int shelf, int body) {
        if (!shelves.isShelf(shelf) || (body != -1 && !voters.isVoter(body))) {
            return BAD;
        }
        shelves.holdVoter(shelf, body);
        return 1;
    }

    public int row(int shelf, int sort, int n) {
        if (!shelves.isShelf(shelf) || !Shelves.isSort(sort) || n > Shelves.MOST_ELEMENTS) {
            return BAD;
        }
        if (n < 0) {
            return SIZE_BELOW_ZERO;
        }
        shelves.holdRow(shelf, sort, n);
        return 1;
    }

    public int put(int shelf, int i, long v) {
        int refused = shelves.refusedAt(shelf, i);
        if (refused != 0) {
            return refused;
        }
        shelves.set(shelf, i, v);
        return 1;
    }

    public long element(int shelf, int i) {
        return shelves.refusedAt(shelf, i) != 0 ? NO_ELEMENT : shelves.valueAt(shelf, i);
    }

    public int shift(int shelf, int i, int other, int j, int n) {
        if (!shelves.isShelf(shelf) || !shelves.isShelf(other)) {
            return BAD;
        }
        int from = shelves.held(shelf);
        int to = shelves.held(other);
        if (from == Shelves.NOTHING || to == Shelves.NOTHING) {
            return NOTHING_THERE;
        }
        if (!Shelves.isSort(from) || from != to) {
            return OTHER_KIND;
        }
        if (!shelves.hasPlaces(shelf, i, n) || !shelves.hasPlaces(other, j, n)) {
            return NO_PLACE;
        }
        shelves.copy(shelf, i, other, j, n);
        return n;
    }

    public int taken(int shelf, int k) {
        if (!shelves.isShelf(shelf) || !Voters.isKind(k)) {
            return BAD;
        }
        if (shelves.held(shelf) == Shelves.NOTHING) {
            return NOTHING_THERE;
        }
        if (shelves.held(shelf) != Shelves.VOTER) {
            return OTHER_KIND;
        }
        int kind = voters.kindOf(shelves.voterOn(shelf));
        return Voters.isUnder(kind, k) ? kind : OTHER_KIND;
    }

    public int count(int what) {
        switch (what) {
            case 0:
                return council.people;
            case 1:
                return council.matters;
            case 2:
                return council.pairs;
            case 3:
                return reader.length;
            case 4:
                return changes.undoable();
            case 5:
                return voters.size();
            case 6:
                return voters.ranInAll();
            default:
                return BAD;
        }
    }

    /** People, their cousins, matters, and what is told of them. */
    private static final class Council {
        static final int TOUCH = 0;
        static final int LIKED = 1;
        static final int RUMOUR = 2;
        static final int FAR = 9;
        static final int ALWAYS = 12;
        private static final int MOST_PAIRS = 12;
        private static final int TWOS = 100;

        private final int[] fees = new int[MOST_PEOPLE];
        private final int[] steps = new int[TWOS];
        // TOUCH and LIKED by pm, RUMOUR by matter, in one row: a change is then one place of it.
        private final int[] told = new int[RUMOUR * TWOS + MOST_MATTERS];
        private int people;
        private int pairs;
        private int matters;
        private int reach = 1;
        private int quorum = 1;

        Council() {
            for (int i = 0; i < TWOS; i++) {
                steps[i] = i / 10 == i % 10 ? 0 : FAR;
            }
        }

        boolean isPerson(int number) {
            return number >= 0 && number < people;
        }

        boolean isMatter(int number) {
            return number >= 0 && number < matters;
        }

        boolean isTwo(int ab) {
            return ab >= 0 && isPerson(ab / 10) && isPerson(ab % 10);
        }

        boolean isBundle(int bits) {
            return bits > 0 && bits <= everything();
        }

        boolean isGifts(int bits) {
            return bits >= 0 && bits <= everybody();
        }

        int everybody() {
            return (1 << people) - 1;
        }

        int everything() {
            return (1 << matters) - 1;
        }

        int addPerson(int fee) {
            if (people >= MOST_PEOPLE) {
                return FULL;
            }
            fees[people] = fee;
            people++;
            return people - 1;
        }

        int addPair(int a, int b) {
            if (stepsOf(a, b) < 2) {
                return BAD;
            }
            if (pairs >= MOST_PAIRS) {
                return FULL;
            }
            pairs++;
            for (int i = 0; i < TWOS; i++) {
                int one = i / 10;
                int other = i % 10;
                int thisWay = stepsOf(one, a) + 1 + stepsOf(b, other);
                int thatWay = stepsOf(one, b) + 1 + stepsOf(a, other);
                steps[i] = Math.min(steps[i], Math.min(thisWay, thatWay));
            }
            return pairs;
        }

        int addMatter() {
            if (matters >= MOST_MATTERS) {
                return FULL;
            }
            tell(RUMOUR * TWOS + matters, ALWAYS);
            matters++;
            return matters - 1;
        }

        int feeOf(int person) {
            return isPerson(person) ? fees[person] : 0;
        }

        int feesOf(int gifts) {
            int sum = 0;
            for (int p = 0; p < MOST_PEOPLE; p++) {
                if ((gifts >>> p & 1) != 0) {
                    sum += fees[p];
                }
            }
            return sum;
        }

        int stepsOf(int a, int b) {
            int two = 10 * a + b;
            return two >= 0 && two < TWOS ? steps[two] : FAR;
        }

        /** The place of a told number; -1: there is none such. */
        int slotOf(int pm, int what) {
            if (what == RUMOUR) {
                return isMatter(pm) ? RUMOUR * TWOS + pm : -1;
            }
            boolean known = pm >= 0 && isPerson(pm / 10) && isMatter(pm % 10);
            return known && (what == TOUCH || what == LIKED) ? what * TWOS + pm : -1;
        }

        static int leastOf(int what) {
            return what == LIKED ? -9 : 0;
        }

        static int mostOf(int what) {
            switch (what) {
                case TOUCH:
                    return 99;
                case LIKED:
                    return 9;
                default:
                    return ALWAYS;
            }
        }

        int toldAt(int slot) {
            return slot >= 0 && slot < told.length ? told[slot] : 0;
        }

        void tell(int slot, int v) {
            if (slot >= 0 && slot < told.length) {
                told[slot] = v;
            }
        }

        /** What is told of a person for all matters of a set, together. */
        int sumOf(int person, int matterBits, int what) {
            int sum = 0;
            for (int m = 0; m < matters; m++) {
                if ((matterBits >>> m & 1) != 0) {
                    sum += toldAt(what * TWOS + 10 * person + m);
                }
            }
            return sum;
        }

        int rumourOf(int matter) {
            return toldAt(RUMOUR * TWOS + matter);
        }
    }

    /** The changes that may be undone, and those that may be done again behind them. */
    private static final class Changes {
        private static final int MOST_KEPT = 40;

        private final Council council;
        private final int[] slots = new int[MOST_KEPT];
        private final int[] before = new int[MOST_KEPT];
        private final int[] after = new int[MOST_KEPT];
        private int done;
        private int kept;

        Changes(Council council) {
            this.council = council;
        }

        /** Answers what it was. */
        int make(int slot, int v) {
            int was = council.toldAt(slot);
            if (was == v) {
                return was;
            }
            council.tell(slot, v);
            if (done >= MOST_KEPT) {
                forgetOldest();
            }
            slots[done] = slot;
            before[done] = was;
            after[done] = v;
            done++;
            kept = done;
            return was;
        }

        private void forgetOldest() {
            System.arraycopy(slots, 1, slots, 0, MOST_KEPT - 1);
            System.arraycopy(before, 1, before, 0, MOST_KEPT - 1);
            System.arraycopy(after, 1, after, 0, MOST_KEPT - 1);
            done = MOST_KEPT - 1;
        }

        boolean takeBack() {
            if (done < 1 || done > MOST_KEPT) {
                return false;
            }
            done--;
            council.tell(slots[done], before[done]);
            return true;
        }

        boolean makeAgain() {
            if (done >= kept || done >= MOST_KEPT) {
                return false;
            }
            council.tell(slots[done], after[done]);
            done++;
            return true;
        }

        int undoable() {
            return done;
        }

        int redoable() {
            return kept - done;
        }
    }

    /** A text of the law as steps of a stack machine, so that each vote need not read it anew. */
    private static final class Code {
        static final int NUMBER = '0';
        static final int NAME = 'a';
        static final int LINE = ';';
        static final int GUARDED_LINE = '?';
        static final int NO = '!';
        static final int NEGATE = '~';
        // One step for each byte of the tape at the most, and one for the end of the last line.
        private static final int MOST_STEPS = 128;

        private final int[] steps = new int[MOST_STEPS];
        private final int[] values = new int[MOST_STEPS];
        private final int[] stack = new int[MOST_STEPS];
        private int length;

        boolean isEmpty() {
            return length == 0;
        }

        void empty() {
            length = 0;
        }

        void add(int step, int value) {
            if (length < MOST_STEPS) {
                steps[length] = step;
                values[length] = value;
                length++;
            }
        }

        void becomes(Code other) {
            length = other.length;
            System.arraycopy(other.steps, 0, steps, 0, MOST_STEPS);
            System.arraycopy(other.values, 0, values, 0, MOST_STEPS);
        }

        /** What the first line that counts is worth; 0: none counts. */
        int worth(int[] names) {
            int top = 0;
            for (int i = 0; i < length && i < MOST_STEPS; i++) {
                int step = steps[i];
                if (step == NUMBER || step == NAME) {
                    if (top >= MOST_STEPS) {
                        return 0;
                    }
                    stack[top] = step == NUMBER ? values[i] : named(names, values[i]);
                    top++;
                } else if (top < needOf(step)) {
                    return 0;
                } else if (step == LINE) {
                    return stack[top - 1];
                } else if (step == NO || step == NEGATE) {
                    stack[top - 1] = step == NEGATE ? -stack[top - 1] : stack[top - 1] == 0 ? 1 : 0;
                } else if (step == GUARDED_LINE) {
                    top -= 2;
                    if (stack[top] != 0) {
                        return stack[top + 1];
                    }
                } else {
                    top--;
                    stack[top - 1] = joined(step, stack[top - 1], stack[top]);
                }
            }
            return 0;
        }

        private static int named(int[] names, int name) {
            return name >= 0 && name < names.length ? names[name] : 0;
        }

        private static int needOf(int step) {
            return step == LINE || step == NO || step == NEGATE ? 1 : 2;
        }

        private static int joined(int step, int a, int b) {
            switch (step) {
                case '|':
                    return a != 0 || b != 0 ? 1 : 0;
                case '&':
                    return a != 0 && b != 0 ? 1 : 0;
                case '<':
                    return a < b ? 1 : 0;
                case '=':
                    return a == b ? 1 : 0;
                case '>':
                    return a > b ? 1 : 0;
                case '+':
                    return a + b;
                case '-':
                    return a - b;
                case '*':
                    return a * b;
                case '/':
                    return b == 0 ? 0 : a / b;
                case '%':
                    return b == 0 ? 0 : a % b;
                default:
                    return 0;
            }
        }
    }

    /** The tape, and how a text is read from it. */
    private static final class Reader {
        private static final int MOST_BYTES = 120;
        private static final int MOST_OPEN = 6;
        private static final int MOST_DIGITS = 4;
        private static final int COMPARING = 2;
        private static final int LEVELS = 5;
        private static final int END = -1;

        private final int[] tape = new int[MOST_BYTES];
        private final Code draft = new Code();
        private int length;
        private int place;

        int take(int letter) {
            if (length >= MOST_BYTES) {
                return FULL;
            }
            tape[length] = letter;
            length++;
            return length;
        }

        /** The fault of the tape, which is empty then; -1: it is a text, and the draft is its code. */
        int read() {
            place = 0;
            draft.empty();
            boolean whole = readLine();
            for (int i = 0; i < MOST_BYTES && whole && next() == ';'; i++) {
                place++;
                whole = readLine();
            }
            int fault = whole && next() == END ? -1 : place;
            length = 0;
            return fault;
        }

        private boolean readLine() {
            if (!readChain(0, 0)) {
                return false;
            }
            if (next() != '?') {
                draft.add(Code.LINE, 0);
                return true;
            }
            place++;
            if (!readChain(0, 0)) {
                return false;
            }
            draft.add(Code.GUARDED_LINE, 0);
            return true;
        }

        private int next() {
            return place >= 0 && place < length && place < MOST_BYTES ? tape[place] : END;
        }

        /** Reads what the signs of a level join: levels 0 to 4 are E, A, B, S, P, and below stands O. */
        private boolean readChain(int level, int open) {
            if (level >= LEVELS) {
                return readOperand(open);
            }
            if (!readChain(level + 1, open)) {
                return false;
            }
            int most = level == COMPARING ? 1 : MOST_BYTES;
            for (int i = 0; i < most && levelOf(next()) == level; i++) {
                int sign = next();
                place++;
                if (!readChain(level + 1, open)) {
                    return false;
                }
                draft.add(sign, 0);
            }
            return true;
        }

        private static int levelOf(int sign) {
            switch (sign) {
                case '|':
                    return 0;
                case '&':
                    return 1;
                case '<':
                case '=':
                case '>':
                    return COMPARING;
                case '+':
                case '-':
                    return 3;
                case '*':
                case '/':
                case '%':
                    return 4;
                default:
                    return -1;
            }
        }

        private boolean readOperand(int open) {
            int letter = next();
            if (letter == '(' || letter == '!' || letter == '-') {
                return open < MOST_OPEN && readOpened(letter, open + 1);
            }
            if (isDigit(letter)) {
                readNumber();
                return true;
            }
            int name = nameOf(letter);
            if (name < 0) {
                return false;
            }
            place++;
            draft.add(Code.NAME, name);
            return true;
        }

        private boolean readOpened(int letter, int open) {
            place++;
            if (letter == '(') {
                if (!readChain(0, open) || next() != ')') {
                    return false;
                }
                place++;
                return true;
            }
            if (!readOperand(open)) {
                return false;
            }
            draft.add(letter == '!' ? Code.NO : Code.NEGATE, 0);
            return true;
        }

        private void readNumber() {
            int value = 0;
            for (int digits = 0; digits < MOST_DIGITS && isDigit(next()); digits++) {
                value = 10 * value + next() - '0';
                place++;
            }
            draft.add(Code.NUMBER, value);
        }

        private static boolean isDigit(int letter) {
            return letter >= '0' && letter <= '9';
        }

        private static int nameOf(int letter) {
            switch (letter) {
                case 't':
                    return Ballot.OWN_TOUCH;
                case 'k':
                    return Ballot.NEAR;
                case 'l':
                    return Ballot.LIKED_TOGETHER;
                case 'p':
                    return Ballot.PERSON;
                case 'n':
                    return Ballot.HOW_MANY;
                case 'g':
                    return Ballot.GIFT;
                default:
                    return -1;
            }
        }
    }

    /** Who may vote, who is for it, whether it is carried. */
    private static final class Ballot {
        static final int OWN_TOUCH = 0;
        static final int NEAR = 1;
        static final int LIKED_TOGETHER = 2;
        static final int PERSON = 3;
        static final int HOW_MANY = 4;
        static final int GIFT = 5;

        private final Council council;
        private final Code text;
        private final int[] touches = new int[MOST_PEOPLE];
        private final int[] names = new int[6];
        private int touched;

        Ballot(Council council, Code text) {
            this.council = council;
            this.text = text;
        }

        /** Who may vote on a bundle, if of its matters only the touching ones touch anybody. */
        int whoMay(int bundle, int touching, int gifts) {
            weigh(touching, gifts);
            int bits = 0;
            for (int p = 0; p < council.people; p++) {
                boolean allowed = text.isEmpty() ? isFree(p, council.reach) : isAllowed(p, bundle, gifts);
                bits |= allowed ? 1 << p : 0;
            }
            return bits;
        }

        /** Who may vote on a bundle without a text, with K as given. */
        int whoIsFree(int bundle, int reach) {
            weigh(bundle, 0);
            int bits = 0;
            for (int p = 0; p < council.people; p++) {
                bits |= isFree(p, reach) ? 1 << p : 0;
            }
            return bits;
        }

        private void weigh(int touching, int gifts) {
            touched = 0;
            for (int p = 0; p < council.people && p < MOST_PEOPLE; p++) {
                touches[p] = council.sumOf(p, touching, Council.TOUCH) + (gifts >>> p & 1);
                touched |= touches[p] > 0 ? 1 << p : 0;
            }
        }

        private boolean isFree(int person, int reach) {
            return (touched >>> person & 1) == 0 && nearOf(person) > reach;
        }

        private boolean isAllowed(int person, int bundle, int gifts) {
            if (person < 0 || person >= MOST_PEOPLE) {
                return false;
            }
            names[OWN_TOUCH] = touches[person];
            names[NEAR] = nearOf(person);
            names[LIKED_TOGETHER] = council.sumOf(person, bundle, Council.LIKED);
            names[PERSON] = person;
            names[HOW_MANY] = Integer.bitCount(bundle);
            names[GIFT] = gifts >>> person & 1;
            return text.worth(names) != 0;
        }

        private int nearOf(int person) {
            int near = Council.FAR;
            for (int p = 0; p < council.people; p++) {
                if (p != person && (touched >>> p & 1) != 0) {
                    near = Math.min(near, council.stepsOf(person, p));
                }
            }
            return near;
        }

        int fans(int bundle) {
            return whoLeans(bundle, 1);
        }

        int foes(int bundle) {
            return whoLeans(bundle, -1);
        }

        private int whoLeans(int bundle, int way) {
            int bits = 0;
            for (int p = 0; p < council.people; p++) {
                bits |= way * council.sumOf(p, bundle, Council.LIKED) > 0 ? 1 << p : 0;
            }
            return bits;
        }

        boolean isCarried(int bundle, int gifts) {
            return isCarriedBy(whoMay(bundle, bundle, gifts), fans(bundle), foes(bundle));
        }

        boolean isCarriedBy(int voters, int fans, int foes) {
            return Integer.bitCount(voters) >= council.quorum && isMore(voters & fans, voters & foes);
        }

        static boolean isMore(int some, int others) {
            return Integer.bitCount(some) > Integer.bitCount(others);
        }
    }

    /** What is found by trying all bundles, gifts, partings, lies. */
    private static final class Finder {
        static final int MOST_REACH = 4;
        static final int MOST_LOTS = 30;
        private static final int MOST_DIVISIONS = 100;

        private final Council council;
        private final Ballot ballot;
        private final int[] says = new int[MOST_PEOPLE];
        // By a set of matters: how many of it can be carried, and the bundle of its least matter then.
        private final int[] most = new int[MOST_BUNDLES];
        private final int[] first = new int[MOST_BUNDLES];
        private final int[] gains = new int[MOST_BUNDLES];

        Finder(Council council, Ballot ballot) {
            this.council = council;
            this.ballot = ballot;
        }

        int smallestCarriedWith(int matter) {
            int best = NOT;
            int all = council.everything();
            for (int bundle = 1; bundle <= all; bundle++) {
                if ((bundle >>> matter & 1) != 0 && isFewer(bundle, best) && ballot.isCarried(bundle, 0)) {
                    best = bundle;
                }
            }
            return best;
        }

        private static boolean isFewer(int bits, int best) {
            return best < 0 || Integer.bitCount(bits) < Integer.bitCount(best);
        }

        int cheapestGifts(int bundle) {
            int best = NOT;
            int all = council.everybody();
            for (int gifts = 0; gifts <= all; gifts++) {
                if (isCheaper(gifts, best) && ballot.isCarried(bundle, gifts)) {
                    best = gifts;
                }
            }
            return best;
        }

        private boolean isCheaper(int gifts, int best) {
            if (best < 0) {
                return true;
            }
            int more = council.feesOf(gifts) - council.feesOf(best);
            return more < 0 || more == 0 && isFewer(gifts, best);
        }

        int fewestLeftOut(int person, int bundle) {
            int best = NOT;
            for (int out = 0; out < bundle; out++) {
                if ((out & ~bundle) == 0 && isFewer(out, best)
                    && (ballot.whoMay(bundle & ~out, bundle & ~out, 0) >>> person & 1) != 0) {
                    best = out;
                }
            }
            return best;
        }

        int carriedAlone() {
            int bits = 0;
            for (int m = 0; m < council.matters; m++) {
                bits |= ballot.isCarried(1 << m, 0) ? 1 << m : 0;
            }
            return bits;
        }

        /** Works out most and first for every set of matters. */
        void part() {
            int all = council.everything();
            most[0] = 0;
            for (int set = 1; set <= all && set < MOST_BUNDLES; set++) {
                gains[set] = ballot.isCarried(set, 0) ? Integer.bitCount(set) : 0;
                most[set] = -1;
                int least = set & -set;
                // Going up, and only what is more replaces: so the least bundle stays of like ones.
                for (int bundle = least; bundle <= set; bundle++) {
                    if ((bundle & ~set) == 0 && (bundle & least) != 0) {
                        int sum = gains[bundle] + most[set & ~bundle];
                        if (sum > most[set]) {
                            most[set] = sum;
                            first[set] = bundle;
                        }
                    }
                }
            }
        }

        int mostCarried() {
            int all = council.everything();
            return all < MOST_BUNDLES ? most[all] : BAD;
        }

        int partOf(int matter) {
            int set = council.everything();
            for (int i = 0; i < MOST_MATTERS && set > 0 && set < MOST_BUNDLES; i++) {
                if ((first[set] >>> matter & 1) != 0) {
                    return first[set];
                }
                set &= ~first[set];
            }
            return BAD;
        }

        int sayOf(int person) {
            countSays();
            return person >= 0 && person < MOST_PEOPLE ? says[person] : BAD;
        }

        private void countSays() {
            for (int p = 0; p < MOST_PEOPLE; p++) {
                says[p] = 0;
            }
            int all = council.everything();
            for (int bundle = 1; bundle <= all; bundle++) {
                int voters = ballot.whoMay(bundle, bundle, 0);
                for (int p = 0; p < MOST_PEOPLE; p++) {
                    says[p] += voters >>> p & 1;
                }
            }
        }

        int powerOf(int person) {
            int power = 0;
            int all = council.everything();
            for (int bundle = 1; bundle <= all; bundle++) {
                int voters = ballot.whoMay(bundle, bundle, 0);
                int others = voters & ~(1 << person);
                int fans = ballot.fans(bundle);
                int foes = ballot.foes(bundle);
                if (others != voters
                    && ballot.isCarriedBy(voters, fans, foes) != ballot.isCarriedBy(others, fans, foes)) {
                    power++;
                }
            }
            return power;
        }

        int mostSaying() {
            countSays();
            int best = 0;
            for (int p = 1; p < council.people && p < MOST_PEOPLE; p++) {
                if (says[p] > says[best]) {
                    best = p;
                }
            }
            return best;
        }

        /** In how many of all twelfths, as many times one another as the bundle has matters, it is carried. */
        int twelfthsCarried(int bundle) {
            int fans = ballot.fans(bundle);
            int foes = ballot.foes(bundle);
            int sum = 0;
            for (int touching = 0; touching <= bundle; touching++) {
                if ((touching & ~bundle) == 0) {
                    int weight = weightOf(bundle, touching);
                    if (weight > 0 && ballot.isCarriedBy(ballot.whoMay(bundle, touching, 0), fans, foes)) {
                        sum += weight;
                    }
                }
            }
            return sum;
        }

        private int weightOf(int bundle, int touching) {
            int weight = 1;
            for (int m = 0; m < council.matters; m++) {
                if ((bundle >>> m & 1) != 0) {
                    int rumour = council.rumourOf(m);
                    weight *= (touching >>> m & 1) != 0 ? rumour : Council.ALWAYS - rumour;
                }
            }
            return weight;
        }

        static int twelfths(int bundle) {
            int all = 1;
            for (int m = 0; m < MOST_MATTERS; m++) {
                if ((bundle >>> m & 1) != 0) {
                    all *= Council.ALWAYS;
                }
            }
            return all;
        }

        static int commonDivisor(int a, int b) {
            int one = a;
            int other = b;
            for (int i = 0; i < MOST_DIVISIONS && other != 0; i++) {
                int rest = one % other;
                one = other;
                other = rest;
            }
            return one;
        }

        int fewestLies(int bundle) {
            int voters = ballot.whoMay(bundle, bundle, 0);
            int fans = ballot.fans(bundle);
            int foes = ballot.foes(bundle);
            boolean carried = ballot.isCarriedBy(voters, fans, foes);
            int best = NOT;
            int all = council.everybody();
            for (int lied = 1; lied <= all; lied++) {
                if (isFewer(lied, best) && ballot.isCarriedBy(voters ^ lied, fans, foes) != carried) {
                    best = lied;
                }
            }
            return best;
        }

        int stepWithFewer(int bundle, int n) {
            for (int reach = 0; reach <= MOST_REACH; reach++) {
                if (Integer.bitCount(ballot.whoIsFree(bundle, reach)) < n) {
                    return reach;
                }
            }
            return NOT;
        }

        int oftenCarriedByLot(int seed, int times, int many, int bundle) {
            int fans = ballot.fans(bundle);
            int foes = ballot.foes(bundle);
            int often = 0;
            int z = seed;
            for (int i = 0; i < times; i++) {
                int drawn = 0;
                for (int left = council.people; left > 0 && left > council.people - many; left--) {
                    z = z * 1103515245 + 12345;
                    drawn |= bitAt(council.everybody() & ~drawn, (z >>> 8) % left);
                }
                if (Ballot.isMore(drawn & fans, drawn & foes)) {
                    often++;
                }
            }
            return often;
        }

        /** The bit that stands at a place among those that are set, the least first. */
        private static int bitAt(int bits, int place) {
            int rest = bits;
            for (int i = 0; i < place && i < MOST_PEOPLE; i++) {
                rest &= rest - 1;
            }
            return rest & -rest;
        }
    }

    /** Years as rows tell them: by twos a bundle, and who was silent. */
    private static final class Years {
        private final Council council;
        private final Ballot ballot;
        private final Shelves shelves;

        Years(Council council, Ballot ballot, Shelves shelves) {
            this.council = council;
            this.ballot = ballot;
            this.shelves = shelves;
        }

        int firstWrong(int shelf) {
            int size = shelves.sizeOf(shelf);
            for (int i = 0; i < size; i += 2) {
                if (!isWhole(shelf, i) || silentAt(shelf, i) != mustBeSilent(bundleAt(shelf, i))) {
                    return i / 2;
                }
            }
            return NOT;
        }

        private int mustBeSilent(int bundle) {
            return council.everybody() & ~ballot.whoMay(bundle, bundle, 0);
        }

        private boolean isWhole(int shelf, int place) {
            return shelves.hasPlace(shelf, place + 1) && council.isBundle(bundleAt(shelf, place));
        }

        private int bundleAt(int shelf, int place) {
            return (int) shelves.valueAt(shelf, place);
        }

        private int silentAt(int shelf, int place) {
            return (int) shelves.valueAt(shelf, place + 1);
        }

        /** Whether the row shows that a matter touches a person. */
        boolean isShown(int shelf, int person, int matter) {
            int size = shelves.sizeOf(shelf);
            for (int i = 0; i < size; i += 2) {
                if (isWhole(shelf, i) && isSilentFor(shelf, i, person, matter)) {
                    int others = bundleAt(shelf, i) & ~(1 << matter);
                    if (others == 0 || hasVotedOn(others, shelf, person, matter)) {
                        return true;
                    }
                }
            }
            return false;
        }

        private boolean isSilentFor(int shelf, int place, int person, int matter) {
            return (bundleAt(shelf, place) >>> matter & silentAt(shelf, place) >>> person & 1) != 0;
        }

        /** Whether a person voted on a bundle without the matter that has all the others. */
        private boolean hasVotedOn(int others, int shelf, int person, int matter) {
            int size = shelves.sizeOf(shelf);
            for (int i = 0; i < size; i += 2) {
                int bundle = bundleAt(shelf, i);
                boolean fits = (bundle & others) == others && (bundle >>> matter & 1) == 0;
                if (fits && isWhole(shelf, i) && (silentAt(shelf, i) >>> person & 1) == 0) {
                    return true;
                }
            }
            return false;
        }
    }

    /** The votes in deed, and an image of what is told of them. */
    private static final class Deeds {
        static final int BUNDLE = 0;
        static final int GIFTS = 1;
        static final int CARRIED = 2;
        static final int DECIDED = 3;
        static final int FEES = 4;
        private static final int ANY = 5;
        private static final int NUMBERS = 6;

        private final int[] now = new int[NUMBERS];
        private final int[] kept = new int[NUMBERS];
        private boolean hasImage;

        int decided() {
            return now[DECIDED];
        }

        boolean isAny() {
            return now[ANY] != 0;
        }

        int told(int what) {
            return what >= 0 && what < NUMBERS ? now[what] : BAD;
        }

        void enter(int bundle, int gifts, int carried, int fees) {
            now[BUNDLE] = bundle;
            now[GIFTS] = gifts;
            now[CARRIED] = carried;
            now[DECIDED] |= carried != 0 ? bundle : 0;
            now[FEES] += fees;
            now[ANY] = 1;
        }

        void keepImage() {
            System.arraycopy(now, 0, kept, 0, NUMBERS);
            hasImage = true;
        }

        boolean goBack() {
            if (hasImage) {
                System.arraycopy(kept, 0, now, 0, NUMBERS);
            }
            return hasImage;
        }
    }

    /** Voters by their kinds, and the trace of the latest act. */
    private static final class Voters {
        private static final int MOST_VOTERS = 50;
        private static final int MOST_TRACED = 24;
        private static final int MOST_DEEP = 30;
        private static final int KINDS = 8;
        private static final int ACTS = 4;
        private static final int VOTES = 0;
        private static final int OWNS = 1;
        private static final int GIVES = 2;
        private static final int TELLS = 3;
        // VOTER, FREE, TOUCHED, COUSIN, MAYOR, SILENT, DRAWN, HERMIT: the kind above each.
        private static final int[] ABOVE = {-1, 0, 0, 2, 1, 3, 0, 4};
        // By kind and act: the number of the body of its own; 0: it has none.
        private static final int[] BODIES = {
            1, 10, 11, 2,
            20, 0, 0, 0,
            0, 30, 0, 0,
            0, 41, 40, 0,
            0, 0, 50, 0,
            0, 0, 0, 60,
            70, 0, 0, 0,
            0, 80, 0, 81,
        };

        private final int[] kinds = new int[MOST_VOTERS];
        private final int[] traced = new int[MOST_TRACED];
        private int size;
        private int ran;

        static boolean isKind(int kind) {
            return kind >= 0 && kind < KINDS;
        }

        static boolean isUnder(int kind, int above) {
            int at = kind;
            for (int i = 0; i < KINDS && isKind(at); i++) {
                if (at == above) {
                    return true;
                }
                at = aboveOf(at);
            }
            return false;
        }

        int add(int kind) {
            if (size >= MOST_VOTERS) {
                return FULL;
            }
            kinds[size] = kind;
            size++;
            return size - 1;
        }

        boolean isVoter(int voter) {
            return voter >= 0 && voter < size;
        }

        int size() {
            return size;
        }

        int kindOf(int voter) {
            return isVoter(voter) ? kinds[voter] : BAD;
        }

        int ranInAll() {
            return ran;
        }

        int ranAt(int i) {
            return i >= 0 && i < ran && i < MOST_TRACED ? traced[i] : BAD;
        }

        int perform(int voter, int act, int x) {
            ran = 0;
            if (!isVoter(voter) || act < 0 || act >= ACTS) {
                return 0;
            }
            return own(voter, act, x, 0);
        }

        /** Runs the body of a voter's own kind, or of the next kind above that has one. */
        private int own(int voter, int act, int x, int depth) {
            return runFrom(kindOf(voter), voter, act, x, depth);
        }

        private int runFrom(int kind, int voter, int act, int x, int depth) {
            int at = kind;
            for (int i = 0; i < KINDS && bodyAt(at, act) == 0; i++) {
                at = aboveOf(at);
            }
            int bodyNumber = bodyAt(at, act);
            if (bodyNumber <= 0 || depth > MOST_DEEP) {
                return 0;
            }
            begin(bodyNumber);
            return run(bodyNumber, aboveOf(at), voter, x, depth + 1);
        }

        private static int bodyAt(int kind, int act) {
            int place = ACTS * kind + act;
            return isKind(kind) && place >= 0 && place < BODIES.length ? BODIES[place] : -1;
        }

        private static int aboveOf(int kind) {
            return kind >= 0 && kind < ABOVE.length ? ABOVE[kind] : -1;
        }

        private void begin(int bodyNumber) {
            if (ran < MOST_TRACED) {
                traced[ran] = bodyNumber;
            }
            ran++;
        }

        /** Runs a body; above: the kind above the one that the body is of. */
        private int run(int bodyNumber, int above, int voter, int x, int depth) {
            switch (bodyNumber) {
                case 1:
                    return x + voter;
                case 2:
                    return own(voter, OWNS, x, depth) - own(voter, GIVES, 1, depth);
                case 10:
                    return own(voter, VOTES, x, depth) * 2;
                case 11:
                    return x ^ voter;
                case 20:
                    return runFrom(above, voter, VOTES, x, depth) + 3;
                case 30:
                    return -runFrom(above, voter, OWNS, x, depth);
                case 40:
                    return runFrom(above, voter, GIVES, x, depth) * 3;
                case 41:
                    return runFrom(above, voter, OWNS, x + 1, depth);
                case 50:
                    return runFrom(above, voter, GIVES, x, depth) - own(voter, VOTES, 2, depth);
                case 60:
                    return runFrom(above, voter, TELLS, x, depth) ^ 5;
                case 70:
                    return runFrom(above, voter, VOTES, x, depth) * 2;
                case 80:
                    return runFrom(above, voter, OWNS, x, depth) + own(voter, GIVES, 2, depth);
                case 81:
                    return runFrom(above, voter, TELLS, x, depth) - 1;
                default:
                    return 0;
            }
        }
    }

    /** What each shelf holds: nothing, a voter, or a row. */
    private static final class Shelves {
        static final int NOTHING = -1;
        static final int BYTES = 0;
        static final int SHORTS = 1;
        static final int INTS = 2;
        static final int LONGS = 3;
        static final int BOOLEANS = 4;
        static final int VOTER = 5;
        static final int MOST_ELEMENTS = 60;
        private static final int MOST_SHELVES = 6;

        private final int[] holds = new int[MOST_SHELVES];
        private final int[] sizes = new int[MOST_SHELVES];
        private final int[] voters = new int[MOST_SHELVES];
        private final long[] elements = new long[MOST_SHELVES * MOST_ELEMENTS];

        Shelves() {
            for (int s = 0; s < MOST_SHELVES; s++) {
                holds[s] = NOTHING;
            }
        }

        boolean isShelf(int shelf) {
            return shelf >= 0 && shelf < MOST_SHELVES;
        }

        static boolean isSort(int sort) {
            return sort >= BYTES && sort <= BOOLEANS;
        }

        int held(int shelf) {
            return isShelf(shelf) ? holds[shelf] : NOTHING;
        }

        int sizeOf(int shelf) {
            return isShelf(shelf) ? sizes[shelf] : 0;
        }

        int voterOn(int shelf) {
            return isShelf(shelf) ? voters[shelf] : NOTHING;
        }

        void holdVoter(int shelf, int voter) {
            if (isShelf(shelf)) {
                holds[shelf] = voter < 0 ? NOTHING : VOTER;
                voters[shelf] = voter;
                sizes[shelf] = 0;
            }
        }

        void holdRow(int shelf, int sort, int size) {
            if (isShelf(shelf) && size >= 0 && size <= MOST_ELEMENTS) {
                holds[shelf] = sort;
                sizes[shelf] = size;
                for (int i = 0; i < size; i++) {
                    elements[MOST_ELEMENTS * shelf + i] = 0;
                }
            }
        }

        /** Whether what a shelf holds is refused as a row of a sort; 0: it is not. */
        int refusedAsRow(int shelf, int sort) {
            if (!isShelf(shelf)) {
                return BAD;
            }
            if (holds[shelf] == NOTHING) {
                return NOTHING_THERE;
            }
            return holds[shelf] == sort ? 0 : OTHER_KIND;
        }

        /** Whether a place of a row, of whatever sort, is refused; 0: it is not. */
        int refusedAt(int shelf, int i) {
            if (!isShelf(shelf)) {
                return BAD;
            }
            if (holds[shelf] == NOTHING) {
                return NOTHING_THERE;
            }
            if (!isSort(holds[shelf])) {
                return OTHER_KIND;
            }
            return hasPlace(shelf, i) ? 0 : NO_PLACE;
        }

        boolean hasPlace(int shelf, int i) {
            return shelf >= 0 && shelf < MOST_SHELVES && i >= 0 && i < sizes[shelf];
        }

        boolean hasPlaces(int shelf, int i, int n) {
            return i >= 0 && n >= 0 && n <= sizeOf(shelf) && i <= sizeOf(shelf) - n;
        }

        long valueAt(int shelf, int i) {
            return hasPlace(shelf, i) ? elements[MOST_ELEMENTS * shelf + i] : 0;
        }

        void set(int shelf, int i, long v) {
            if (hasPlace(shelf, i)) {
                elements[MOST_ELEMENTS * shelf + i] = lowestBits(holds[shelf], v);
            }
        }

        private static long lowestBits(int sort, long v) {
            switch (sort) {
                case BYTES:
                    return (byte) v;
                case SHORTS:
                    return (short) v;
                case INTS:
                    return (int) v;
                case BOOLEANS:
                    return v != 0 ? 1 : 0;
                default:
                    return v;
            }
        }

        void copy(int shelf, int i, int other, int j, int n) {
            if (hasPlaces(shelf, i, n) && hasPlaces(other, j, n)) {
                System.arraycopy(elements, MOST_ELEMENTS * shelf + i, elements, MOST_ELEMENTS * other + j, n);
            }
        }
    }
}
