import java.util.ArrayList;
import java.util.Arrays;
import java.util.Collections;
import java.util.HashSet;
import java.util.List;
import java.util.Set;
import java.util.TreeSet;

/** The document's terms said once more, word by word and without a thought of speed, to compare with. */
final class Plain {
    final String text;
    final int n;
    final int[][] product;
    final List<Integer> free = new ArrayList<>();
    final List<Integer> full = new ArrayList<>();
    final List<Integer> complete = new ArrayList<>();

    private final List<String> factors;
    private List<int[]> turns;

    Plain(List<String> factors) {
        this.factors = factors;
        this.text = String.join("", factors);
        int size = 1;
        for (String factor : factors) {
            size *= sizeOf(factor);
        }
        n = size;
        product = new int[n][n];
        for (int a = 0; a < n; a++) {
            for (int b = 0; b < n; b++) {
                product[a][b] = multiply(a, b);
            }
        }
    }

    /** Every row of FACTORS that a TEXT can have. */
    static List<List<String>> allFactors() {
        List<List<String>> rows = new ArrayList<>();
        addRows(new ArrayList<>(), 1, rows);
        return rows;
    }

    private static void addRows(List<String> row, int size, List<List<String>> rows) {
        rows.add(new ArrayList<>(row));
        List<String> kinds = new ArrayList<>();
        for (int number = 2; number <= 16; number++) {
            kinds.add("cyclic " + number + ";");
        }
        for (int number = 1; number <= 8; number++) {
            kinds.add("dihedral " + number + ";");
        }
        kinds.add("quaternion;");
        for (String kind : kinds) {
            if (size * sizeOf(kind) <= 16) {
                row.add(kind);
                addRows(row, size * sizeOf(kind), rows);
                row.remove(row.size() - 1);
            }
        }
    }

    private static int numberOf(String factor) {
        return Integer.parseInt(factor.replaceAll("[^0-9]", ""));
    }

    static int sizeOf(String factor) {
        if (factor.startsWith("q")) {
            return 8;
        }
        return factor.startsWith("c") ? numberOf(factor) : 2 * numberOf(factor);
    }

    private int multiply(int a, int b) {
        int result = 0;
        int scale = 1;
        int left = a;
        int right = b;
        for (String factor : factors) {
            int size = sizeOf(factor);
            result += scale * multiply(factor, left % size, right % size);
            left /= size;
            right /= size;
            scale *= size;
        }
        return result;
    }

    private static int multiply(String factor, int x, int y) {
        if (factor.startsWith("q")) {
            String[] names = {"1", "i", "j", "k"};
            int sign = x / 4 + y / 4;
            String pair = names[x % 4] + names[y % 4];
            String found = switch (pair) {
                case "11" -> "+1";
                case "1i", "i1" -> "+i";
                case "1j", "j1" -> "+j";
                case "1k", "k1" -> "+k";
                case "ii", "jj", "kk" -> "-1";
                case "ij" -> "+k";
                case "jk" -> "+i";
                case "ki" -> "+j";
                case "ji" -> "-k";
                case "kj" -> "-i";
                default -> "-j";
            };
            int base = Arrays.asList(names).indexOf(found.substring(1));
            return base + 4 * ((sign + (found.charAt(0) == '-' ? 1 : 0)) % 2);
        }
        int number = numberOf(factor);
        if (factor.startsWith("c")) {
            return (x + y) % number;
        }
        int a = x % number;
        int b = x / number;
        int c = y % number;
        int d = y / number;
        return Math.floorMod(b == 0 ? a + c : a - c, number) + number * ((b + d) % 2);
    }

    static boolean has(int set, int e) {
        return (set >> e & 1) == 1;
    }

    static List<Integer> elements(int set) {
        List<Integer> row = new ArrayList<>();
        for (int e = 0; e < 31; e++) {
            if (has(set, e)) {
                row.add(e);
            }
        }
        return row;
    }

    boolean inBounds(int set) {
        return set >= 0 && set < 1 << n;
    }

    int inverse(int a) {
        for (int b = 0; b < n; b++) {
            if (product[a][b] == 0) {
                return b;
            }
        }
        throw new IllegalStateException("no inverse");
    }

    int order(int a) {
        int power = a;
        int times = 1;
        while (power != 0) {
            power = product[power][a];
            times++;
        }
        return times;
    }

    List<int[]> tripleList(int set) {
        List<int[]> found = new ArrayList<>();
        for (int x : elements(set)) {
            for (int y : elements(set)) {
                if (has(set, product[x][y])) {
                    found.add(new int[] {x, y, product[x][y]});
                }
            }
        }
        return found;
    }

    boolean isFree(int set) {
        for (int x = 0; x < n; x++) {
            for (int y = 0; y < n && has(set, x); y++) {
                if (has(set, y) && has(set, product[x][y])) {
                    return false;
                }
            }
        }
        return true;
    }

    boolean isFull(int set) {
        return isFree(set) && open(set) == 0;
    }

    boolean isComplete(int set) {
        return isFree(set) && (products(set, set) | set) == (1 << n) - 1;
    }

    boolean isKind(int set, int kind) {
        return kind == 0 ? isFree(set) : kind == 1 ? isFull(set) : isComplete(set);
    }

    int open(int set) {
        int bits = 0;
        for (int e = 0; e < n; e++) {
            if (!has(set, e) && isFree(set | 1 << e)) {
                bits |= 1 << e;
            }
        }
        return bits;
    }

    int products(int set, int other) {
        int bits = 0;
        for (int x : elements(set)) {
            for (int y : elements(other)) {
                bits |= 1 << product[x][y];
            }
        }
        return bits;
    }

    int inverses(int set) {
        int bits = 0;
        for (int x : elements(set)) {
            bits |= 1 << inverse(x);
        }
        return bits;
    }

    int shifted(int g, int set, boolean left) {
        return left ? products(1 << g, set) : products(set, 1 << g);
    }

    int conjugated(int g, int set) {
        return products(products(1 << g, set), 1 << inverse(g));
    }

    int power(int set, int k) {
        int result = set;
        for (int i = 1; i < k; i++) {
            result = products(result, set);
        }
        return result;
    }

    int covers(int set) {
        for (int k = 1; k <= 99; k++) {
            if (power(set, k) == (1 << n) - 1) {
                return k;
            }
        }
        return -2;
    }

    int span(int set) {
        int bits = set | 1;
        while (products(bits, bits) != bits) {
            bits |= products(bits, bits);
        }
        return bits;
    }

    boolean isSubgroup(int set) {
        return has(set, 0) && products(set, set) == set;
    }

    int subgroups() {
        int found = 0;
        for (int set = 1; set < 1 << n; set += 2) {
            if (n % Integer.bitCount(set) == 0 && isSubgroup(set)) {
                found++;
            }
        }
        return found;
    }

    List<Integer> generators() {
        List<Integer> row = new ArrayList<>();
        int set = 0;
        for (int e = 1; e < n; e++) {
            if (!has(span(set), e)) {
                row.add(e);
                set |= 1 << e;
            }
        }
        return row;
    }

    int alike(int e) {
        int bits = 0;
        for (int g = 0; g < n; g++) {
            bits |= 1 << product[product[g][e]][inverse(g)];
        }
        return bits;
    }

    int kin() {
        Set<Integer> unlike = new HashSet<>();
        for (int e = 0; e < n; e++) {
            unlike.add(alike(e));
        }
        return unlike.size();
    }

    int centre() {
        int bits = 0;
        for (int e = 0; e < n; e++) {
            boolean same = true;
            for (int g = 0; g < n; g++) {
                same &= product[e][g] == product[g][e];
            }
            bits |= same ? 1 << e : 0;
        }
        return bits;
    }

    int normal(int set) {
        for (int g = 0; g < n; g++) {
            if (shifted(g, set, true) != shifted(g, set, false)) {
                return 0;
            }
        }
        return 1;
    }

    int copies(int set) {
        Set<Integer> unlike = new HashSet<>();
        for (int g = 0; g < n; g++) {
            unlike.add(shifted(g, set, true));
        }
        return unlike.size();
    }

    int period(int set, boolean left) {
        int bits = 0;
        for (int g = 0; g < n; g++) {
            bits |= shifted(g, set, left) == set ? 1 << g : 0;
        }
        return bits;
    }

    int ways(int set, int e) {
        int found = 0;
        for (int x : elements(set)) {
            for (int y : elements(set)) {
                found += product[x][y] == e ? 1 : 0;
            }
        }
        return found;
    }

    int energy(int set) {
        int sum = 0;
        for (int e = 0; e < n; e++) {
            sum += ways(set, e) * ways(set, e);
        }
        return sum;
    }

    /** Fills the rows of all sets of each kind. */
    void listKinds() {
        for (int set = 0; set < 1 << n; set++) {
            if (isFree(set)) {
                free.add(set);
                if (isFull(set)) {
                    full.add(set);
                }
                if (isComplete(set)) {
                    complete.add(set);
                }
            }
        }
    }

    List<Integer> ofKind(int kind) {
        return kind == 0 ? free : kind == 1 ? full : complete;
    }

    List<Integer> ofKind(int kind, int k) {
        List<Integer> row = new ArrayList<>();
        for (int set : ofKind(kind)) {
            if (Integer.bitCount(set) == k) {
                row.add(set);
            }
        }
        return row;
    }

    int thinned(int start) {
        int set = start;
        while (!isFree(set)) {
            int[] busy = new int[n];
            for (int[] triple : tripleList(set)) {
                Set<Integer> places = new HashSet<>(Arrays.asList(triple[0], triple[1], triple[2]));
                for (int e : places) {
                    busy[e]++;
                }
            }
            int most = 0;
            for (int e = n - 1; e >= 0; e--) {
                if (busy[e] >= busy[most]) {
                    most = e;
                }
            }
            set &= ~(1 << most);
        }
        return set;
    }

    int filled(int start) {
        int set = start;
        for (int e = 0; e < n; e++) {
            if (isFree(set | 1 << e)) {
                set |= 1 << e;
            }
        }
        return set;
    }

    /** The first colouring of a set with k colours, or null. */
    int[] colours(int set, int k) {
        int[] colours = new int[n];
        Arrays.fill(colours, -1);
        return goesOn(elements(set), 0, colours, new int[k]) ? colours : null;
    }

    private boolean goesOn(List<Integer> row, int i, int[] colours, int[] classes) {
        if (i == row.size()) {
            return true;
        }
        int e = row.get(i);
        for (int c = 0; c < classes.length; c++) {
            if (isFree(classes[c] | 1 << e)) {
                classes[c] |= 1 << e;
                colours[e] = c;
                if (goesOn(row, i + 1, colours, classes)) {
                    return true;
                }
                classes[c] &= ~(1 << e);
            }
        }
        return false;
    }

    int parts(int set) {
        int k = 0;
        while (colours(set, k) == null) {
            k++;
        }
        return k;
    }

    /** All turns, found element by element. */
    List<int[]> turns() {
        if (turns == null) {
            turns = new ArrayList<>();
            addTurns(new int[n], 0, 0);
        }
        return turns;
    }

    private void addTurns(int[] sent, int next, int taken) {
        if (next == n) {
            turns.add(sent.clone());
            return;
        }
        for (int goal = 0; goal < n; goal++) {
            sent[next] = goal;
            if (!has(taken, goal) && keepsProducts(sent, next)) {
                addTurns(sent, next + 1, taken | 1 << goal);
            }
        }
    }

    private boolean keepsProducts(int[] sent, int last) {
        for (int x = 0; x <= last; x++) {
            for (int y = 0; y <= last; y++) {
                int xy = product[x][y];
                if (xy <= last && sent[xy] != product[sent[x]][sent[y]]) {
                    return false;
                }
            }
        }
        return true;
    }

    TreeSet<Integer> orbit(int set) {
        TreeSet<Integer> found = new TreeSet<>();
        for (int[] turn : turns()) {
            int image = 0;
            for (int e = 0; e < n; e++) {
                image |= has(set, e) ? 1 << turn[e] : 0;
            }
            found.add(image);
        }
        return found;
    }

    int orbits(int kind, int k) {
        Set<Integer> left = new TreeSet<>(ofKind(kind, k));
        int found = 0;
        while (!left.isEmpty()) {
            left.removeAll(orbit(left.iterator().next()));
            found++;
        }
        return found;
    }

    /** All characters into m, in the document's order. */
    List<int[]> characters(int m) {
        List<int[]> found = new ArrayList<>();
        addCharacters(new int[n], 0, m, found);
        List<Integer> generators = generators();
        Collections.sort(found, (a, b) -> {
            for (int g : generators) {
                if (a[g] != b[g]) {
                    return Integer.compare(a[g], b[g]);
                }
            }
            return 0;
        });
        return found;
    }

    private void addCharacters(int[] sent, int next, int m, List<int[]> found) {
        if (next == n) {
            found.add(sent.clone());
            return;
        }
        for (int number = 0; number < m; number++) {
            sent[next] = number;
            if (keepsSums(sent, next, m)) {
                addCharacters(sent, next + 1, m, found);
            }
        }
    }

    private boolean keepsSums(int[] sent, int last, int m) {
        for (int x = 0; x <= last; x++) {
            for (int y = 0; y <= last; y++) {
                int xy = product[x][y];
                if (xy <= last && sent[xy] != (sent[x] + sent[y]) % m) {
                    return false;
                }
            }
        }
        return true;
    }

    static int middle(int m) {
        int bits = 0;
        for (int x = 0; x < m; x++) {
            bits |= 3 * x > m && 3 * x <= 2 * m ? 1 << x : 0;
        }
        return bits;
    }

    static int lift(int[] character, int numbers) {
        int bits = 0;
        for (int e = 0; e < character.length; e++) {
            bits |= has(numbers, character[e]) ? 1 << e : 0;
        }
        return bits;
    }

    static int ints(int top, int k) {
        int found = 0;
        for (int set = 0; set < 1 << top + 1; set += 2) {
            boolean fits = k < 0 || Integer.bitCount(set) == k;
            List<Integer> row = fits ? elements(set) : List.of();
            for (int x : row) {
                for (int y : row) {
                    fits &= !has(set, x + y) || x + y > top;
                }
            }
            found += fits ? 1 : 0;
        }
        return found;
    }

    String spelled(int set) {
        StringBuilder out = new StringBuilder(text);
        if (set != 0) {
            out.append("set");
            for (int e : elements(set)) {
                out.append(' ').append(e);
            }
            out.append(';');
        }
        return out.toString();
    }

    String reported(int set) {
        String size = "size " + Integer.bitCount(set) + ";";
        if (!isFree(set)) {
            return size + "triples " + tripleList(set).size() + ";";
        }
        String how = isFull(set) ? "full;" : "open " + Integer.bitCount(open(set)) + ";";
        return size + "free;" + how + (isComplete(set) ? "complete;" : "");
    }
}
