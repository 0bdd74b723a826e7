import java.util.ArrayList;
import java.util.List;

/**
 * All that can be seen of an object, in parts: to see all of it one must change it, and no object is
 * called more than 512 times.
 */
final class Look {
    static final int PARTS = 5;

    private Look() {
    }

    static List<Long> at(VotesUntouched x, int part) {
        List<Long> seen = new ArrayList<>();
        switch (part) {
            case 0:
                lookAtCouncil(x, seen);
                break;
            case 1:
                lookAtVotes(x, seen);
                break;
            case 2:
                lookAtShelves(x, seen);
                break;
            case 3:
                lookAtChanges(x, seen);
                break;
            default:
                lookAtWhatComesNext(x, seen);
        }
        return seen;
    }

    private static void add(List<Long> seen, long answer) {
        seen.add(answer);
    }

    private static void lookAtCouncil(VotesUntouched x, List<Long> seen) {
        for (int what = 0; what <= 6; what++) {
            add(seen, x.count(what));
        }
        int people = x.count(0);
        int matters = x.count(1);
        for (int p = 0; p < people; p++) {
            add(seen, x.of(p, 10));
            for (int m = 0; m < matters; m++) {
                add(seen, x.of(10 * p + m, 0));
                add(seen, x.of(10 * p + m, 1));
            }
            for (int other = 0; other < p; other++) {
                add(seen, x.of(10 * p + other, 30));
            }
        }
        for (int m = 0; m < matters; m++) {
            add(seen, x.of(m, 20));
        }
    }

    private static void lookAtVotes(VotesUntouched x, List<Long> seen) {
        for (int i = 0; i < 24; i++) {
            add(seen, x.trace(i));
        }
        for (int what = 0; what <= 4; what++) {
            add(seen, x.led(what));
        }
        for (int bundle = 1; bundle < 1 << x.count(1); bundle++) {
            add(seen, x.vote(bundle, 0, 0));
            add(seen, x.vote(bundle, 0, 3));
        }
        add(seen, x.rule(0, 0));
        add(seen, x.rule(1, 0));
    }

    private static void lookAtShelves(VotesUntouched x, List<Long> seen) {
        for (int s = 0; s < 6; s++) {
            for (int i = 0; i <= 60 && (i == 0 || x.element(s, i - 1) != Long.MIN_VALUE); i++) {
                add(seen, x.element(s, i));
            }
            add(seen, x.taken(s, 0));
            add(seen, x.put(s, 0, (1L << 40) + (1L << 20) + 40000));
            add(seen, x.element(s, 0));
            for (int other = 0; other < s; other++) {
                add(seen, x.shift(s, 0, other, 0, 0));
            }
        }
    }

    private static void lookAtChanges(VotesUntouched x, List<Long> seen) {
        for (int answer = x.redo(), i = 0; i <= 40; answer = x.redo(), i++) {
            add(seen, answer);
        }
        for (int answer = x.undo(), i = 0; i <= 40; answer = x.undo(), i++) {
            add(seen, answer);
        }
        int people = x.count(0);
        int matters = x.count(1);
        for (int p = 0; p < people; p++) {
            for (int m = 0; m < matters; m++) {
                add(seen, x.of(10 * p + m, 0));
                add(seen, x.of(10 * p + m, 1));
            }
        }
    }

    private static void lookAtWhatComesNext(VotesUntouched x, List<Long> seen) {
        int voters = x.count(5);
        for (int v = 0; v < voters; v++) {
            add(seen, x.act(v, 3, 5));
        }
        add(seen, x.body(0));
        add(seen, x.back());
        for (int what = 0; what <= 4; what++) {
            add(seen, x.led(what));
        }
        add(seen, x.feed('1'));
        add(seen, x.law());
        for (int bundle = 1; bundle < 1 << x.count(1); bundle++) {
            add(seen, x.vote(bundle, 0, 0));
        }
        add(seen, x.person(7));
        add(seen, x.matter());
        add(seen, x.cousins(3));
    }
}
