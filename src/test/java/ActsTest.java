import java.util.ArrayDeque;
import java.util.Arrays;
import java.util.Deque;
import java.util.List;
import java.util.Random;

/** Long rows of acts, each compared with a state of which whole copies are kept to undo to. */
public final class ActsTest {
    // each is followed by nine calls more, and an object is used for at most 512
    private static final int ACTS = 45;
    private static final int ROUNDS = 3;
    private static final int NONE = SumFreeSets.NONE;

    private final Check check = new Check();
    private final Random random;
    private final Plain plain;
    private final SumFreeSets x;
    /** Of one copy: WEIGHTS, SHELVES, S. */
    private int[] state;
    private final Deque<int[]> olds = new ArrayDeque<>();
    private final int setPlace;

    private ActsTest(Plain plain, int seed) {
        this.plain = plain;
        random = new Random(seed);
        x = Check.told(plain.text);
        state = new int[plain.n + 4];
        Arrays.fill(state, 0, plain.n, 1);
        setPlace = plain.n + 3;
    }

    public static void main(String[] args) {
        List<List<String>> rows = Plain.allFactors();
        boolean right = rows.stream().parallel().allMatch(row -> rounds(new Plain(row), row.hashCode()));
        Check all = new Check();
        all.due("all rows of acts are as due", right, true);
        all.end();
    }

    private static boolean rounds(Plain plain, int seed) {
        plain.listKinds();
        boolean right = true;
        for (int round = 0; round < ROUNDS; round++) {
            right &= new ActsTest(plain, seed + round).run();
        }
        return right;
    }

    private boolean run() {
        for (int i = 0; i < ACTS && check.isRightSoFar(); i++) {
            check.about(plain.text + " act " + i + " at set " + state[setPlace]);
            if (random.nextInt(4) == 0) {
                undo();
            } else {
                act(random.nextInt(10));
            }
            compareState();
        }
        return check.isRight();
    }

    private int element() {
        return random.nextInt(plain.n + 2) - 1;
    }

    private boolean there(int e) {
        return e >= 0 && e < plain.n;
    }

    private void act(int which) {
        int set = state[setPlace];
        int e = element();
        boolean flag = random.nextBoolean();
        switch (which) {
            case 0 -> {
                int due = there(e) ? flag ? set | 1 << e : set & ~(1 << e) : set;
                check.due("put(" + e + ", " + flag + ")", x.put(e, flag), change(setPlace, due));
            }
            case 1 -> {
                int goal = random.nextInt(8) == 0 ? random.nextInt() : random.nextInt(1 << plain.n);
                boolean does = plain.inBounds(goal) && change(setPlace, goal);
                check.due("become(" + goal + ")", x.become(goal), does ? set : NONE);
            }
            case 2 -> {
                boolean does = plain.isFree(set) && change(setPlace, plain.filled(set));
                check.due("fill()", x.fill(), does ? Integer.bitCount(state[setPlace] ^ set) : NONE);
            }
            case 3 -> {
                boolean does = change(setPlace, plain.thinned(set));
                check.due("thin()", x.thin(), does ? Integer.bitCount(state[setPlace] ^ set) : NONE);
            }
            case 4 -> {
                boolean does = there(e) && change(setPlace, plain.shifted(e, set, flag));
                check.due("shift(" + e + ", " + flag + ")", x.shift(e, flag), does ? state[setPlace] : NONE);
            }
            case 5 -> {
                boolean does = change(setPlace, plain.inverses(set));
                check.due("invert()", x.invert(), does ? state[setPlace] : NONE);
            }
            case 6 -> {
                boolean does = there(e) && change(setPlace, plain.conjugated(e, set));
                check.due("turn(" + e + ")", x.turn(e), does ? state[setPlace] : NONE);
            }
            case 7 -> weigh(e, random.nextInt(12) - 1);
            default -> shelve(which == 8, random.nextInt(5) - 1);
        }
    }

    private void weigh(int e, int weight) {
        int old = there(e) ? state[e] : NONE;
        boolean does = there(e) && weight >= 0 && weight <= 9 && change(e, weight);
        check.due("weigh(" + e + ", " + weight + ")", x.weigh(e, weight), does ? old : NONE);
    }

    private void shelve(boolean keep, int shelf) {
        boolean holds = shelf >= 0 && shelf < 3;
        int place = holds ? plain.n + shelf : 0;
        int old = state[place];
        if (keep) {
            boolean does = holds && change(place, state[setPlace]);
            check.due("keep(" + shelf + ")", x.keep(shelf), does ? old : NONE);
        } else {
            boolean does = holds && change(setPlace, old);
            check.due("take(" + shelf + ")", x.take(shelf), does ? old : NONE);
        }
    }

    private boolean change(int place, int value) {
        if (state[place] == value) {
            return false;
        }
        olds.push(state.clone());
        if (olds.size() > 12) {
            olds.removeLast();
        }
        state[place] = value;
        return true;
    }

    private void undo() {
        if (olds.isEmpty()) {
            check.due("undo()", x.undo(), NONE);
        } else {
            state = olds.pop();
            check.due("undo()", x.undo(), olds.size());
        }
    }

    private void compareState() {
        check.due("count(2)", x.count(2), state[setPlace]);
        check.due("count(3)", x.count(3), Integer.bitCount(state[setPlace]));
        check.due("count(4)", x.count(4), olds.size());
        int weights = 0;
        for (int e = 0; e < plain.n; e++) {
            weights += state[e];
        }
        check.due("count(11)", x.count(11), weights);
        for (int shelf = 0; shelf < 3; shelf++) {
            check.due("count(" + (7 + shelf) + ")", x.count(7 + shelf), state[plain.n + shelf]);
        }
        compareBest();
    }

    private void compareBest() {
        int most = -1;
        int winner = 0;
        for (int set : plain.free) {
            int weight = 0;
            for (int e : Plain.elements(set)) {
                weight += state[e];
            }
            if (weight > most) {
                most = weight;
                winner = set;
            }
        }
        check.due("best(0)", x.best(0), most);
        check.due("best(1)", x.best(1), winner);
    }
}
