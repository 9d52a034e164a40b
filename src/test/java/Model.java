import java.util.ArrayDeque;
import java.util.ArrayList;
import java.util.Arrays;
import java.util.Deque;
import java.util.HashMap;
import java.util.List;
import java.util.Map;

/** The whole face once more, on top of Plain and PlainText: it keeps nothing but the state that the document tells. */
public final class Model {
    private static final int NONE = -1;
    private static final int MISSING = -2;

    private final Map<String, Plain> groups = new HashMap<>();
    private final List<Integer> tape = new ArrayList<>();
    private final Deque<int[]> olds = new ArrayDeque<>();
    private Plain plain;
    private int factors;
    /** WEIGHTS, the three SHELVES, S. */
    private int[] state;

    public Model() {
        restart(List.of(), 0);
    }

    private void restart(List<String> row, int set) {
        plain = groups.computeIfAbsent(String.join("", row), text -> {
            Plain made = new Plain(new ArrayList<>(row));
            made.listKinds();
            return made;
        });
        factors = row.size();
        state = new int[plain.n + 4];
        Arrays.fill(state, 0, plain.n, 1);
        state[plain.n + 3] = set;
        olds.clear();
    }

    Plain group() {
        return plain;
    }

    private int set() {
        return state[plain.n + 3];
    }

    private boolean there(int e) {
        return e >= 0 && e < plain.n;
    }

    private static boolean among(int value, int first, int last) {
        return value >= first && value <= last;
    }

    private boolean change(int place, int value) {
        if (state[place] == value) {
            return false;
        }
        olds.push(state.clone());
        if (olds.size() > 12) {
            olds.removeLast();
        }
        state[place] = value;
        return true;
    }

    private int move(boolean may, int set, int answer) {
        return may && change(plain.n + 3, set) ? answer : NONE;
    }

    // ---- told

    public int feed(int a, int b, int c, int d, int e) {
        if (tape.size() > 180) {
            return NONE;
        }
        for (int word : new int[] {a, b, c, d, e}) {
            for (int shift = 24; shift >= 0; shift -= 8) {
                tape.add(word >> shift & 255);
            }
        }
        return tape.size();
    }

    public int back(int n) {
        if (n < 0 || n > tape.size()) {
            return NONE;
        }
        tape.subList(tape.size() - n, tape.size()).clear();
        return tape.size();
    }

    public int text() {
        StringBuilder signs = new StringBuilder();
        for (int sign : tape) {
            signs.append((char) sign);
        }
        tape.clear();
        PlainText read = new PlainText(signs.toString());
        if (read.fault >= 0) {
            return -4 - read.fault;
        }
        restart(read.factors, read.set);
        return plain.n;
    }

    // ---- acts

    public boolean put(int e, boolean in) {
        return there(e) && change(plain.n + 3, in ? set() | 1 << e : set() & ~(1 << e));
    }

    public int become(int set) {
        return move(plain.inBounds(set), set, set());
    }

    public int fill() {
        int filled = plain.isFree(set()) ? plain.filled(set()) : set();
        return move(true, filled, Integer.bitCount(filled ^ set()));
    }

    public int thin() {
        int thinned = plain.thinned(set());
        return move(true, thinned, Integer.bitCount(thinned ^ set()));
    }

    public int shift(int g, boolean left) {
        int shifted = there(g) ? plain.shifted(g, set(), left) : NONE;
        return move(there(g), shifted, shifted);
    }

    public int invert() {
        return move(true, plain.inverses(set()), plain.inverses(set()));
    }

    public int turn(int g) {
        int turned = there(g) ? plain.conjugated(g, set()) : NONE;
        return move(there(g), turned, turned);
    }

    public int weigh(int e, int weight) {
        int old = there(e) ? state[e] : NONE;
        return there(e) && among(weight, 0, 9) && change(e, weight) ? old : NONE;
    }

    public int keep(int shelf) {
        int old = among(shelf, 0, 2) ? state[plain.n + shelf] : NONE;
        return among(shelf, 0, 2) && change(plain.n + shelf, set()) ? old : NONE;
    }

    public int take(int shelf) {
        int held = among(shelf, 0, 2) ? state[plain.n + shelf] : NONE;
        return move(among(shelf, 0, 2), held, held);
    }

    public int undo() {
        if (olds.isEmpty()) {
            return NONE;
        }
        state = olds.pop();
        return olds.size();
    }

    // ---- the group

    public int product(int a, int b) {
        return there(a) && there(b) ? plain.product[a][b] : NONE;
    }

    public int inverse(int a) {
        return there(a) ? plain.inverse(a) : NONE;
    }

    public int orderOf(int a) {
        return there(a) ? plain.order(a) : NONE;
    }

    public int centre() {
        return plain.centre();
    }

    public int span(int set) {
        return plain.inBounds(set) ? plain.span(set) : NONE;
    }

    public int subgroups() {
        return plain.subgroups();
    }

    public int coset(int set, int g, boolean left) {
        if (!plain.inBounds(set) || !there(g)) {
            return NONE;
        }
        return plain.isSubgroup(set) ? plain.shifted(g, set, left) : MISSING;
    }

    public int generator(int i) {
        if (i < 0) {
            return NONE;
        }
        return i < plain.generators().size() ? plain.generators().get(i) : MISSING;
    }

    public int alike(int e) {
        return there(e) ? plain.alike(e) : NONE;
    }

    public int kin() {
        return plain.kin();
    }

    public int normal(int set) {
        if (!plain.inBounds(set)) {
            return NONE;
        }
        return plain.isSubgroup(set) ? plain.normal(set) : MISSING;
    }

    // ---- sets

    public int power(int set, int k) {
        return plain.inBounds(set) && among(k, 1, 99) ? plain.power(set, k) : NONE;
    }

    public int covers(int set) {
        return plain.inBounds(set) ? plain.covers(set) : NONE;
    }

    public int is(int set, int kind) {
        if (!plain.inBounds(set) || !among(kind, 0, 2)) {
            return NONE;
        }
        return plain.isKind(set, kind) ? 1 : 0;
    }

    public int triples(int set) {
        return plain.inBounds(set) ? plain.tripleList(set).size() : NONE;
    }

    public int triple(int set, int what) {
        if (!plain.inBounds(set) || !among(what, 0, 2)) {
            return NONE;
        }
        return plain.isFree(set) ? MISSING : plain.tripleList(set).get(0)[what];
    }

    public int products(int set, int other) {
        return plain.inBounds(set) && plain.inBounds(other) ? plain.products(set, other) : NONE;
    }

    public int quotients(int set) {
        return plain.inBounds(set) ? plain.products(set, plain.inverses(set)) : NONE;
    }

    public int even(int set) {
        if (!plain.inBounds(set)) {
            return NONE;
        }
        return plain.inverses(set) == set ? 1 : 0;
    }

    public int copies(int set) {
        return plain.inBounds(set) ? plain.copies(set) : NONE;
    }

    public int open(int set) {
        return plain.inBounds(set) ? plain.open(set) : NONE;
    }

    public int period(int set, boolean left) {
        return plain.inBounds(set) ? plain.period(set, left) : NONE;
    }

    public int ways(int set, int e) {
        return plain.inBounds(set) && there(e) ? plain.ways(set, e) : NONE;
    }

    public int energy(int set) {
        return plain.inBounds(set) ? plain.energy(set) : NONE;
    }

    // ---- counted

    private List<Integer> listed(int kind, int k) {
        return k == NONE ? plain.ofKind(kind) : plain.ofKind(kind, k);
    }

    public int many(int kind, int k) {
        return among(kind, 0, 2) && k >= NONE ? listed(kind, k).size() : NONE;
    }

    public int greatest() {
        int k = plain.n;
        while (listed(0, k).isEmpty()) {
            k--;
        }
        return k;
    }

    public int nth(int kind, int k, int i) {
        if (!among(kind, 0, 2) || k < 0 || i < 0) {
            return NONE;
        }
        return i < listed(kind, k).size() ? listed(kind, k).get(i) : MISSING;
    }

    public int within(int set, boolean above) {
        if (!plain.inBounds(set)) {
            return NONE;
        }
        int found = 0;
        for (int free : plain.free) {
            found += (above ? free | set : free & set) == free ? 1 : 0;
        }
        return found;
    }

    public int nearest(int set, int kind, int what) {
        if (!plain.inBounds(set) || !among(kind, 0, 2) || !among(what, 0, 1)) {
            return NONE;
        }
        for (int apart = 0; apart <= plain.n; apart++) {
            for (int one : plain.ofKind(kind)) {
                if (Integer.bitCount(one ^ set) == apart) {
                    return what == 0 ? apart : one;
                }
            }
        }
        return MISSING;
    }

    private int weightOf(int set) {
        int weight = 0;
        for (int e : Plain.elements(set)) {
            weight += state[e];
        }
        return weight;
    }

    public int best(int what) {
        if (!among(what, 0, 1)) {
            return NONE;
        }
        int winner = 0;
        for (int free : plain.free) {
            winner = weightOf(free) > weightOf(winner) ? free : winner;
        }
        return what == 0 ? weightOf(winner) : winner;
    }

    public int mean(int kind, boolean lower) {
        if (!among(kind, 0, 2)) {
            return NONE;
        }
        int sets = plain.ofKind(kind).size();
        int elements = 0;
        for (int set : plain.ofKind(kind)) {
            elements += Integer.bitCount(set);
        }
        for (int divisor = sets; divisor >= 1; divisor--) {
            if (sets % divisor == 0 && elements % divisor == 0) {
                return (lower ? sets : elements) / divisor;
            }
        }
        return MISSING;
    }

    public int usual(int kind) {
        if (!among(kind, 0, 2)) {
            return NONE;
        }
        int winner = MISSING;
        for (int k = plain.n; k >= 0; k--) {
            int found = listed(kind, k).size();
            if (found > 0 && (winner == MISSING || found >= listed(kind, winner).size())) {
                winner = k;
            }
        }
        return winner;
    }

    public int parts(int set) {
        if (!plain.inBounds(set)) {
            return NONE;
        }
        return Plain.has(set, 0) ? MISSING : plain.parts(set);
    }

    public int classes() {
        return plain.parts((1 << plain.n) - 2);
    }

    public int colour(int e) {
        if (!there(e)) {
            return NONE;
        }
        return e == 0 ? MISSING : plain.colours((1 << plain.n) - 2, classes())[e];
    }

    // ---- turned

    public int turns() {
        return plain.turns().size();
    }

    public int image(int set) {
        return plain.inBounds(set) ? plain.orbit(set).first() : NONE;
    }

    public int orbit(int set) {
        return plain.inBounds(set) ? plain.orbit(set).size() : NONE;
    }

    public int orbits(int kind, int k) {
        return among(kind, 0, 2) && k >= 0 ? plain.orbits(kind, k) : NONE;
    }

    // ---- characters

    public int characters(int m) {
        return among(m, 1, 16) ? plain.characters(m).size() : NONE;
    }

    public int character(int m, int k, int e) {
        if (!among(m, 1, 16) || !there(e) || k < 0) {
            return NONE;
        }
        List<int[]> row = plain.characters(m);
        return k < row.size() ? row.get(k)[e] : MISSING;
    }

    public int lift(int m, int k, int numbers) {
        if (!among(m, 1, 16) || k < 0 || !among(numbers, 0, (1 << m) - 1)) {
            return NONE;
        }
        List<int[]> row = plain.characters(m);
        return k < row.size() ? Plain.lift(row.get(k), numbers) : MISSING;
    }

    public int middle(int m) {
        return among(m, 1, 16) ? Plain.middle(m) : NONE;
    }

    public int lifted(int m) {
        if (!among(m, 1, 16)) {
            return NONE;
        }
        int most = 0;
        for (int[] character : plain.characters(m)) {
            most = Math.max(most, Integer.bitCount(Plain.lift(character, Plain.middle(m))));
        }
        return most;
    }

    // ---- whole numbers

    public int ints(int n, int k) {
        return among(n, 0, 16) && k >= NONE ? Plain.ints(n, k) : NONE;
    }

    // ---- texts

    private static int signOf(String text, int i) {
        if (i < NONE) {
            return NONE;
        }
        if (i == NONE) {
            return text.length();
        }
        return i < text.length() ? text.charAt(i) : MISSING;
    }

    public int spell(int i) {
        return signOf(plain.spelled(set()), i);
    }

    public int report(int i) {
        return signOf(plain.reported(set()), i);
    }

    public int count(int what) {
        return switch (what) {
            case 0 -> plain.n;
            case 1 -> factors;
            case 2 -> set();
            case 3 -> Integer.bitCount(set());
            case 4 -> olds.size();
            case 5 -> tape.size();
            case 6 -> plain.centre() == (1 << plain.n) - 1 ? 1 : 0;
            case 7, 8, 9 -> state[plain.n + what - 7];
            case 10 -> plain.generators().size();
            case 11 -> weightOf((1 << plain.n) - 1);
            default -> NONE;
        };
    }
}
