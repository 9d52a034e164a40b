import java.util.Arrays;

/** Sets without sums in groups of at most 16 elements; DOC.md tells what each call answers. */
public final class SumFreeSets {
    public static final int NONE = -1;

    private static final int MISSING = -2;
    private static final int FAULTY = -4;
    private static final int MOST_ELEMENTS = 16;
    private static final int MOST_FACTORS = 4;
    private static final int MOST_WEIGHT = 9;
    private static final int MOST_POWER = 99;
    private static final int SHELVES = 3;
    private static final int KINDS = 3;
    private static final int FREE = 0;
    private static final int FULL = 1;
    private static final int COMPLETE = 2;
    private static final int CYCLIC = 0;
    private static final int DIHEDRAL = 1;
    private static final int QUATERNION = 2;

    private final Tape tape;
    private final Reader reader;
    private final Group group;
    private final Basis basis;
    private final FreeSets frees;
    private final Colouring colouring;
    private final Turning turning;
    private final Homs homs;
    private final Acts acts;
    private final Letters letters;
    private final int[] tally;

    public SumFreeSets() {
        tape = new Tape();
        reader = new Reader(tape);
        group = new Group();
        basis = new Basis(group);
        frees = new FreeSets(group);
        colouring = new Colouring(group);
        turning = new Turning(group, basis);
        homs = new Homs(group, basis);
        acts = new Acts();
        letters = new Letters();
        tally = new int[MOST_ELEMENTS + 1];
        renew();
    }

    // ---- told

    public int feed(int a, int b, int c, int d, int e) {
        if (tape.length + Tape.FED > Tape.MOST) {
            return NONE;
        }
        tape.addFour(a);
        tape.addFour(b);
        tape.addFour(c);
        tape.addFour(d);
        tape.addFour(e);
        return tape.length;
    }

    public int back(int n) {
        if (n < 0 || n > tape.length) {
            return NONE;
        }
        tape.length -= n;
        return tape.length;
    }

    public int text() {
        int fault = reader.readTape();
        tape.length = 0;
        if (fault != NONE) {
            return FAULTY - fault;
        }
        renew();
        return group.size;
    }

    // ---- acts

    public boolean put(int e, boolean in) {
        if (!group.holds(e)) {
            return false;
        }
        int bit = 1 << e;
        return acts.change(Acts.SET, in ? acts.set() | bit : acts.set() & ~bit);
    }

    public int become(int set) {
        int old = acts.set();
        return group.holdsSet(set) && acts.change(Acts.SET, set) ? old : NONE;
    }

    public int fill() {
        int set = acts.set();
        if (!group.isFree(set)) {
            return NONE;
        }
        int filled = set;
        for (int e = 0; e < group.size; e++) {
            if ((filled >> e & 1) == 0 && group.staysFree(filled, e)) {
                filled |= 1 << e;
            }
        }
        return acts.change(Acts.SET, filled) ? Integer.bitCount(filled & ~set) : NONE;
    }

    public int thin() {
        int set = acts.set();
        int thinned = set;
        for (int step = 0; step < MOST_ELEMENTS && !group.isFree(thinned); step++) {
            thinned &= ~(1 << busiest(thinned));
        }
        return acts.change(Acts.SET, thinned) ? Integer.bitCount(set & ~thinned) : NONE;
    }

    public int shift(int g, boolean left) {
        return group.holds(g) ? moveTo(group.moved(g, acts.set(), left)) : NONE;
    }

    public int invert() {
        return moveTo(group.inversesOf(acts.set()));
    }

    public int turn(int g) {
        return group.holds(g) ? moveTo(group.conjugated(g, acts.set())) : NONE;
    }

    public int weigh(int e, int weight) {
        if (!group.holds(e) || weight < 0 || weight > MOST_WEIGHT) {
            return NONE;
        }
        int old = acts.valueAt(e);
        return acts.change(e, weight) ? old : NONE;
    }

    public int keep(int shelf) {
        if (!isShelf(shelf)) {
            return NONE;
        }
        int old = acts.valueAt(Acts.SHELF + shelf);
        return acts.change(Acts.SHELF + shelf, acts.set()) ? old : NONE;
    }

    public int take(int shelf) {
        return isShelf(shelf) ? moveTo(acts.valueAt(Acts.SHELF + shelf)) : NONE;
    }

    public int undo() {
        return acts.takeBack();
    }

    // ---- the group

    public int product(int a, int b) {
        return group.holds(a) && group.holds(b) ? group.times(a, b) : NONE;
    }

    public int inverse(int a) {
        return group.holds(a) ? group.inverseOf(a) : NONE;
    }

    public int orderOf(int a) {
        if (!group.holds(a)) {
            return NONE;
        }
        return Integer.bitCount(group.spanOf(1 << a));
    }

    public int centre() {
        int bits = 0;
        for (int e = 0; e < group.size; e++) {
            if (group.commutes(e)) {
                bits |= 1 << e;
            }
        }
        return bits;
    }

    public int span(int set) {
        return group.holdsSet(set) ? group.spanOf(set) : NONE;
    }

    public int subgroups() {
        return group.countSubgroups();
    }

    public int coset(int set, int g, boolean left) {
        if (!group.holdsSet(set) || !group.holds(g)) {
            return NONE;
        }
        return group.isSubgroup(set) ? group.moved(g, set, left) : MISSING;
    }

    public int generator(int i) {
        if (i < 0) {
            return NONE;
        }
        return i < basis.rank ? basis.generatorAt(i) : MISSING;
    }

    public int alike(int e) {
        return group.holds(e) ? group.alikeOf(e) : NONE;
    }

    public int kin() {
        int found = 0;
        for (int e = 0; e < group.size; e++) {
            // of each such SET only its least ELEMENT counts
            if ((group.alikeOf(e) & (1 << e) - 1) == 0) {
                found++;
            }
        }
        return found;
    }

    public int normal(int set) {
        if (!group.holdsSet(set)) {
            return NONE;
        }
        if (!group.isSubgroup(set)) {
            return MISSING;
        }
        for (int g = 0; g < group.size; g++) {
            if (group.moved(g, set, true) != group.moved(g, set, false)) {
                return 0;
            }
        }
        return 1;
    }

    // ---- sets

    public int power(int set, int k) {
        if (!group.holdsSet(set) || k < 1 || k > MOST_POWER) {
            return NONE;
        }
        int result = 1;
        int square = set;
        for (int left = k; left > 0; left >>= 1) {
            if ((left & 1) != 0) {
                result = group.productsOf(result, square);
            }
            square = group.productsOf(square, square);
        }
        return result;
    }

    public int covers(int set) {
        if (!group.holdsSet(set)) {
            return NONE;
        }
        int reached = set;
        for (int k = 1; k <= MOST_POWER; k++) {
            if (reached == group.all) {
                return k;
            }
            int next = group.productsOf(reached, set);
            // a power that is no greater than the one ahead is a shift of it, and so are all behind it
            if (Integer.bitCount(next) == Integer.bitCount(reached)) {
                return MISSING;
            }
            reached = next;
        }
        return MISSING;
    }

    public int is(int set, int kind) {
        if (!group.holdsSet(set) || !isKind(kind)) {
            return NONE;
        }
        return group.isFree(set) && group.kindOf(set) >= kind ? 1 : 0;
    }

    public int triples(int set) {
        return group.holdsSet(set) ? group.countTriples(set) : NONE;
    }

    public int triple(int set, int what) {
        if (!group.holdsSet(set) || what < 0 || what > 2) {
            return NONE;
        }
        for (int x = 0; x < group.size; x++) {
            for (int y = 0; y < group.size; y++) {
                if (group.isTriple(set, x, y)) {
                    return what == 0 ? x : what == 1 ? y : group.times(x, y);
                }
            }
        }
        return MISSING;
    }

    public int products(int set, int other) {
        return group.holdsSet(set) && group.holdsSet(other) ? group.productsOf(set, other) : NONE;
    }

    public int quotients(int set) {
        return group.holdsSet(set) ? group.productsOf(set, group.inversesOf(set)) : NONE;
    }

    public int even(int set) {
        if (!group.holdsSet(set)) {
            return NONE;
        }
        return group.inversesOf(set) == set ? 1 : 0;
    }

    public int copies(int set) {
        if (!group.holdsSet(set)) {
            return NONE;
        }
        int found = 0;
        for (int g = 0; g < group.size; g++) {
            int copy = group.moved(g, set, true);
            boolean fresh = true;
            for (int i = 0; i < found && fresh; i++) {
                fresh = tally[i] != copy;
            }
            if (fresh) {
                tally[found++] = copy;
            }
        }
        return found;
    }

    public int open(int set) {
        return group.holdsSet(set) ? group.openOf(set) : NONE;
    }

    public int period(int set, boolean left) {
        if (!group.holdsSet(set)) {
            return NONE;
        }
        int bits = 0;
        for (int g = 0; g < group.size; g++) {
            if (group.moved(g, set, left) == set) {
                bits |= 1 << g;
            }
        }
        return bits;
    }

    public int ways(int set, int e) {
        return group.holdsSet(set) && group.holds(e) ? group.waysOf(set, e) : NONE;
    }

    public int energy(int set) {
        if (!group.holdsSet(set)) {
            return NONE;
        }
        int sum = 0;
        for (int e = 0; e < group.size; e++) {
            int pairs = group.waysOf(set, e);
            sum += pairs * pairs;
        }
        return sum;
    }

    // ---- counted

    public int many(int kind, int k) {
        if (!isKind(kind) || k < NONE) {
            return NONE;
        }
        int found = 0;
        int total = frees.total();
        for (int i = 0; i < total; i++) {
            if (frees.fits(i, kind, k)) {
                found++;
            }
        }
        return found;
    }

    public int greatest() {
        int most = 0;
        int total = frees.total();
        for (int i = 0; i < total; i++) {
            most = Math.max(most, Integer.bitCount(frees.setAt(i)));
        }
        return most;
    }

    public int nth(int kind, int k, int i) {
        if (!isKind(kind) || k < 0 || i < 0) {
            return NONE;
        }
        int ahead = 0;
        int total = frees.total();
        for (int j = 0; j < total; j++) {
            if (frees.fits(j, kind, k)) {
                if (ahead == i) {
                    return frees.setAt(j);
                }
                ahead++;
            }
        }
        return MISSING;
    }

    public int within(int set, boolean above) {
        if (!group.holdsSet(set)) {
            return NONE;
        }
        int found = 0;
        int total = frees.total();
        for (int i = 0; i < total; i++) {
            int free = frees.setAt(i);
            int outside = above ? set & ~free : free & ~set;
            if (outside == 0) {
                found++;
            }
        }
        return found;
    }

    public int nearest(int set, int kind, int what) {
        if (!group.holdsSet(set) || !isKind(kind) || what < 0 || what > 1) {
            return NONE;
        }
        int least = MOST_ELEMENTS + 1;
        int winner = MISSING;
        int total = frees.total();
        for (int i = 0; i < total; i++) {
            int unlike = Integer.bitCount(frees.setAt(i) ^ set);
            if (frees.fits(i, kind, NONE) && unlike < least) {
                least = unlike;
                winner = frees.setAt(i);
            }
        }
        return winner == MISSING || what == 1 ? winner : least;
    }

    public int best(int what) {
        if (what < 0 || what > 1) {
            return NONE;
        }
        int most = NONE;
        int winner = 0;
        int total = frees.total();
        for (int i = 0; i < total; i++) {
            int weight = acts.weightOf(frees.setAt(i));
            if (weight > most) {
                most = weight;
                winner = frees.setAt(i);
            }
        }
        return what == 0 ? most : winner;
    }

    public int mean(int kind, boolean lower) {
        if (!isKind(kind)) {
            return NONE;
        }
        int elements = 0;
        int found = 0;
        int total = frees.total();
        for (int i = 0; i < total; i++) {
            if (frees.fits(i, kind, NONE)) {
                elements += Integer.bitCount(frees.setAt(i));
                found++;
            }
        }
        if (found == 0) {
            return MISSING;
        }
        int shared = Math.max(1, greatestDivisor(elements, found));
        return (lower ? found : elements) / shared;
    }

    public int usual(int kind) {
        if (!isKind(kind)) {
            return NONE;
        }
        Arrays.fill(tally, 0);
        int total = frees.total();
        for (int i = 0; i < total; i++) {
            if (frees.fits(i, kind, NONE)) {
                tally[Integer.bitCount(frees.setAt(i))]++;
            }
        }
        int winner = MISSING;
        int most = 0;
        for (int k = 0; k < tally.length; k++) {
            if (tally[k] > most) {
                most = tally[k];
                winner = k;
            }
        }
        return winner;
    }

    public int parts(int set) {
        if (!group.holdsSet(set)) {
            return NONE;
        }
        return (set & 1) == 0 ? colouring.fewestFor(set) : MISSING;
    }

    public int classes() {
        return colouring.fewestFor(group.all & ~1);
    }

    public int colour(int e) {
        if (!group.holds(e)) {
            return NONE;
        }
        return e == 0 ? MISSING : colouring.colourOf(e);
    }

    // ---- turned

    public int turns() {
        return turning.total();
    }

    public int image(int set) {
        if (!group.holdsSet(set)) {
            return NONE;
        }
        turning.forgetImages();
        turning.spread(set);
        return turning.leastImage();
    }

    public int orbit(int set) {
        if (!group.holdsSet(set)) {
            return NONE;
        }
        turning.forgetImages();
        turning.spread(set);
        return turning.imageCount;
    }

    public int orbits(int kind, int k) {
        if (!isKind(kind) || k < 0) {
            return NONE;
        }
        turning.forgetImages();
        int found = 0;
        int total = frees.total();
        for (int i = 0; i < total; i++) {
            if (frees.fits(i, kind, k) && !turning.knowsImage(frees.setAt(i))) {
                turning.spread(frees.setAt(i));
                found++;
            }
        }
        return found;
    }

    // ---- characters

    public int characters(int m) {
        return isRing(m) ? homs.totalInto(m) : NONE;
    }

    public int character(int m, int k, int e) {
        if (!isRing(m) || !group.holds(e) || k < 0) {
            return NONE;
        }
        return k < homs.totalInto(m) ? homs.valueOf(k, e) : MISSING;
    }

    public int lift(int m, int k, int numbers) {
        if (!isRing(m) || k < 0 || (numbers & -1 << m) != 0) {
            return NONE;
        }
        return k < homs.totalInto(m) ? homs.liftOf(k, numbers) : MISSING;
    }

    public int middle(int m) {
        return isRing(m) ? middleOf(m) : NONE;
    }

    public int lifted(int m) {
        if (!isRing(m)) {
            return NONE;
        }
        int most = 0;
        int total = homs.totalInto(m);
        for (int k = 0; k < total; k++) {
            most = Math.max(most, Integer.bitCount(homs.liftOf(k, middleOf(m))));
        }
        return most;
    }

    // ---- whole numbers

    public int ints(int n, int k) {
        if (n < 0 || n > MOST_ELEMENTS || k < NONE) {
            return NONE;
        }
        return wholeSets(1, n, k, 0, 0);
    }

    // ---- texts

    public int spell(int i) {
        if (i < NONE) {
            return NONE;
        }
        letters.clear();
        for (int f = 0; f < group.factors; f++) {
            spellFactor(f);
        }
        if (acts.set() != 0) {
            letters.addWord("set");
            for (int e = 0; e < group.size; e++) {
                if ((acts.set() >> e & 1) != 0) {
                    letters.addNumber(e);
                }
            }
            letters.addEnd();
        }
        return letters.answer(i);
    }

    public int report(int i) {
        if (i < NONE) {
            return NONE;
        }
        int set = acts.set();
        letters.clear();
        letters.addCounted("size", Integer.bitCount(set));
        if (group.isFree(set)) {
            reportFree(set);
        } else {
            letters.addCounted("triples", group.countTriples(set));
        }
        return letters.answer(i);
    }

    public int count(int what) {
        switch (what) {
            case 0:
                return group.size;
            case 1:
                return group.factors;
            case 2:
                return acts.set();
            case 3:
                return Integer.bitCount(acts.set());
            case 4:
                return acts.undoable;
            case 5:
                return tape.length;
            case 6:
                return centre() == group.all ? 1 : 0;
            case 7:
            case 8:
            case 9:
                return acts.valueAt(Acts.SHELF + what - 7);
            case 10:
                return basis.rank;
            case 11:
                return acts.weightOf(group.all);
            default:
                return NONE;
        }
    }

    // ---- what the calls share

    /** Takes over what the reader has read; at first that is a TEXT without a byte. */
    private void renew() {
        group.load(reader);
        basis.find();
        frees.forget();
        colouring.forget();
        turning.forget();
        homs.forget();
        acts.restart(reader.set);
    }

    private int moveTo(int set) {
        return acts.change(Acts.SET, set) ? set : NONE;
    }

    /** The ELEMENT that is in most TRIPLES of a SET, of several the first. */
    private int busiest(int set) {
        Arrays.fill(tally, 0);
        for (int x = 0; x < group.size; x++) {
            for (int y = 0; y < group.size; y++) {
                if (group.isTriple(set, x, y)) {
                    int inTriple = 1 << x | 1 << y | 1 << group.times(x, y);
                    addToTally(inTriple);
                }
            }
        }
        int winner = 0;
        for (int e = 1; e < group.size; e++) {
            if (tally[e] > tally[winner]) {
                winner = e;
            }
        }
        return winner;
    }

    private void addToTally(int set) {
        for (int e = 0; e < group.size; e++) {
            tally[e] += set >> e & 1;
        }
    }

    private void spellFactor(int f) {
        int kind = group.kinds[f];
        if (kind == QUATERNION) {
            letters.addWord("quaternion");
            letters.addEnd();
        } else {
            letters.addCounted(kind == CYCLIC ? "cyclic" : "dihedral", group.numbers[f]);
        }
    }

    private void reportFree(int set) {
        int kind = group.kindOf(set);
        letters.addWord("free");
        letters.addEnd();
        if (kind == FREE) {
            letters.addCounted("open", Integer.bitCount(group.openOf(set)));
        } else {
            letters.addWord("full");
            letters.addEnd();
        }
        if (kind == COMPLETE) {
            letters.addWord("complete");
            letters.addEnd();
        }
    }

    private static boolean isKind(int kind) {
        return kind >= 0 && kind < KINDS;
    }

    private static boolean isShelf(int shelf) {
        return shelf >= 0 && shelf < SHELVES;
    }

    private static boolean isRing(int m) {
        return m >= 1 && m <= MOST_ELEMENTS;
    }

    private static int middleOf(int m) {
        int bits = 0;
        for (int x = 0; x < m; x++) {
            if (3 * x > m && 3 * x <= 2 * m) {
                bits |= 1 << x;
            }
        }
        return bits;
    }

    private static int greatestDivisor(int a, int b) {
        int greater = a;
        int lesser = b;
        for (int step = 0; step < 64 && lesser != 0; step++) {
            int rest = greater % lesser;
            greater = lesser;
            lesser = rest;
        }
        return greater;
    }

    /** How many ways a set of whole numbers goes on with numbers next .. n, left more of them (NONE: any many). */
    private static int wholeSets(int next, int n, int left, int set, int sums) {
        if (left == 0 || next > n || next > MOST_ELEMENTS) {
            return left > 0 ? 0 : 1;
        }
        int found = wholeSets(next + 1, n, left, set, sums);
        if ((sums >> next & 1) == 0) {
            // numbers come rising, so the newest one is never a part of a sum that is there already
            int more = set | 1 << next;
            int fewer = left == NONE ? NONE : left - 1;
            found += wholeSets(next + 1, n, fewer, more, sums | more << next);
        }
        return found;
    }

    /** The bytes that have been fed. */
    private static final class Tape {
        static final int MOST = 200;
        static final int FED = 20;

        private final int[] bytes = new int[MOST];
        private int length;

        void addFour(int word) {
            for (int shift = 24; shift >= 0; shift -= 8) {
                if (length >= 0 && length < MOST) {
                    bytes[length++] = word >>> shift & 255;
                }
            }
        }

        int byteAt(int i) {
            return i >= 0 && i < length && i < MOST ? bytes[i] : NONE;
        }
    }

    /** Reads the tape as a TEXT, beside the state, so that a FAULT leaves that as it is. */
    private static final class Reader {
        private final Tape tape;
        private final int[] kinds = new int[MOST_FACTORS];
        private final int[] numbers = new int[MOST_FACTORS];
        private int factors;
        private int size = 1;
        private int set;
        private int at;
        private int numberAt;
        private int fault = NONE;

        Reader(Tape tape) {
            this.tape = tape;
        }

        /** The FAULT, or NONE. */
        int readTape() {
            factors = 0;
            size = 1;
            set = 0;
            at = 0;
            fault = NONE;
            boolean ended = false;
            skipBlanks();
            for (int round = 0; round <= Tape.MOST && at < tape.length && fault == NONE; round++) {
                if (ended) {
                    fault = at;
                } else {
                    ended = readPart();
                    skipBlanks();
                }
            }
            return fault;
        }

        /** Whether it was the part behind which none may come. */
        private boolean readPart() {
            int start = at;
            skipAll('a', 'z');
            if (isWord(start, "cyclic")) {
                int number = readNumber(2, MOST_ELEMENTS);
                addFactor(CYCLIC, number, number, numberAt);
            } else if (isWord(start, "dihedral")) {
                int number = readNumber(1, MOST_ELEMENTS / 2);
                addFactor(DIHEDRAL, number, 2 * number, numberAt);
            } else if (isWord(start, "quaternion")) {
                addFactor(QUATERNION, 0, 8, start);
            } else if (isWord(start, "set")) {
                readSet();
                return true;
            } else {
                fault = start;
            }
            return false;
        }

        private void addFactor(int kind, int number, int elements, int start) {
            if (fault != NONE) {
                return;
            }
            if (size * elements > MOST_ELEMENTS || factors >= MOST_FACTORS) {
                fault = start;
                return;
            }
            kinds[factors] = kind;
            numbers[factors] = number;
            factors++;
            size *= elements;
            skipBlanks();
            if (tape.byteAt(at) == ';') {
                at++;
            } else {
                fault = at;
            }
        }

        private void readSet() {
            for (int round = 0; round <= Tape.MOST && fault == NONE; round++) {
                int before = at;
                skipBlanks();
                if (tape.byteAt(at) == ';') {
                    at++;
                    return;
                }
                // the number itself looks whether there is a blank ahead of it
                at = before;
                int e = readNumber(0, size - 1);
                if (fault == NONE && (set >> e & 1) != 0) {
                    fault = numberAt;
                }
                if (fault == NONE) {
                    set |= 1 << e;
                }
            }
        }

        /** A number within bounds; else a FAULT, and NONE. */
        private int readNumber(int low, int high) {
            int before = at;
            skipBlanks();
            numberAt = at;
            skipAll('0', '9');
            int digits = at - numberAt;
            if (numberAt == before || digits < 1 || digits > 2) {
                fault = numberAt;
                return NONE;
            }
            int value = tape.byteAt(at - 1) - '0';
            if (digits == 2) {
                value += 10 * (tape.byteAt(numberAt) - '0');
            }
            if (value < low || value > high) {
                fault = numberAt;
                return NONE;
            }
            return value;
        }

        private boolean isWord(int start, String word) {
            if (at - start != word.length()) {
                return false;
            }
            for (int i = 0; i < word.length(); i++) {
                if (tape.byteAt(start + i) != word.charAt(i)) {
                    return false;
                }
            }
            return true;
        }

        private void skipAll(char first, char last) {
            while (at < tape.length && tape.byteAt(at) >= first && tape.byteAt(at) <= last) {
                at++;
            }
        }

        private void skipBlanks() {
            while (at < tape.length && (tape.byteAt(at) == ' ' || tape.byteAt(at) == '\n')) {
                at++;
            }
        }
    }

    /** The group at hand: its products, and what they tell of its sets. */
    private static final class Group {
        private static final int MASK = MOST_ELEMENTS - 1;
        // the most SUBGROUPS that a group of 16 has are 67
        private static final int MOST_SUBGROUPS = 128;

        private final int[] kinds = new int[MOST_FACTORS];
        private final int[] numbers = new int[MOST_FACTORS];
        private final int[] table = new int[MOST_ELEMENTS * MOST_ELEMENTS];
        private final int[] inverses = new int[MOST_ELEMENTS];
        private final int[] spanned = new int[MOST_ELEMENTS];
        private final int[] subgroupRow = new int[MOST_SUBGROUPS];
        private int factors;
        private int size;
        private int all;
        private int subgroupCount;

        void load(Reader reader) {
            size = 1;
            Arrays.fill(table, 0);
            factors = reader.factors;
            for (int f = 0; f < factors; f++) {
                kinds[f] = reader.kinds[f];
                numbers[f] = reader.numbers[f];
                addFactor(kinds[f], numbers[f]);
            }
            all = (1 << size) - 1;
            subgroupCount = NONE;
            for (int a = 0; a < size; a++) {
                for (int b = 0; b < size; b++) {
                    if (times(a, b) == 0) {
                        inverses[a] = b;
                    }
                }
            }
        }

        private void addFactor(int kind, int number) {
            int elements = kind == CYCLIC ? number : kind == DIHEDRAL ? 2 * number : 8;
            int inner = size;
            for (int x = 0; x < elements; x++) {
                for (int y = 0; y < elements; y++) {
                    int outer = inner * factorProduct(kind, number, x, y);
                    addBlock(inner, inner * x, inner * y, outer);
                }
            }
            size = inner * elements;
        }

        /** Lays the table as it was ahead of this FACTOR beside itself, raised by the FACTOR's part. */
        private void addBlock(int inner, int row, int column, int outer) {
            for (int a = 0; a < inner; a++) {
                for (int b = 0; b < inner; b++) {
                    table[(row + a & MASK) * MOST_ELEMENTS + (column + b & MASK)] = times(a, b) + outer;
                }
            }
        }

        private static int factorProduct(int kind, int number, int x, int y) {
            if (kind == CYCLIC) {
                return wrapped(x + y, number);
            }
            if (kind == QUATERNION) {
                return quaternionProduct(x, y);
            }
            int a = wrapped(x, number);
            int c = wrapped(y, number);
            boolean flipped = x >= number;
            int turned = flipped ? wrapped(a + number - c, number) : wrapped(a + c, number);
            return flipped == y >= number ? turned : turned + number;
        }

        private static int wrapped(int value, int modulus) {
            return value >= modulus ? value - modulus : value;
        }

        private static int quaternionProduct(int x, int y) {
            int a = x & 3;
            int b = y & 3;
            int opposite = (x ^ y) & 4;
            if (a == 0 || b == 0) {
                return a + b + opposite;
            }
            if (a == b) {
                return opposite ^ 4;
            }
            boolean forward = b == (a == 3 ? 1 : a + 1);
            // i, j, k are 1, 2, 3: the third one is what two of them leave of 6
            return 6 - a - b + (forward ? opposite : opposite ^ 4);
        }

        int times(int a, int b) {
            return table[(a & MASK) * MOST_ELEMENTS + (b & MASK)];
        }

        int inverseOf(int a) {
            return inverses[a & MASK];
        }

        boolean holds(int e) {
            return e >= 0 && e < size;
        }

        boolean holdsSet(int set) {
            return (set & ~all) == 0;
        }

        /** Whether a SET has x, y and their PRODUCT. */
        boolean isTriple(int set, int x, int y) {
            return (set >> x & set >> y & set >> times(x, y) & 1) != 0;
        }

        int moved(int g, int set, boolean left) {
            int bits = 0;
            for (int e = 0; e < size; e++) {
                if ((set >> e & 1) != 0) {
                    bits |= 1 << (left ? times(g, e) : times(e, g));
                }
            }
            return bits;
        }

        int conjugated(int g, int set) {
            return moved(inverseOf(g), moved(g, set, true), false);
        }

        int inversesOf(int set) {
            int bits = 0;
            for (int e = 0; e < size; e++) {
                if ((set >> e & 1) != 0) {
                    bits |= 1 << inverseOf(e);
                }
            }
            return bits;
        }

        int productsOf(int set, int other) {
            int bits = 0;
            for (int e = 0; e < size; e++) {
                if ((set >> e & 1) != 0) {
                    bits |= moved(e, other, true);
                }
            }
            return bits;
        }

        int alikeOf(int e) {
            int bits = 0;
            for (int g = 0; g < size; g++) {
                bits |= conjugated(g, 1 << e);
            }
            return bits;
        }

        boolean commutes(int e) {
            for (int g = 0; g < size; g++) {
                if (times(e, g) != times(g, e)) {
                    return false;
                }
            }
            return true;
        }

        int spanOf(int set) {
            int bits = 1;
            int reached = 1;
            spanned[0] = 0;
            // a finite group: PRODUCTS alone come round to the inverses
            for (int i = 0; i < reached && i < MOST_ELEMENTS; i++) {
                int more = moved(spanned[i], set, true) & ~bits;
                bits |= more;
                for (int e = 0; e < size; e++) {
                    if ((more >> e & 1) != 0) {
                        spanned[reached & MASK] = e;
                        reached++;
                    }
                }
            }
            return bits;
        }

        boolean isSubgroup(int set) {
            return spanOf(set) == set;
        }

        int countSubgroups() {
            if (subgroupCount == NONE) {
                subgroupRow[0] = 1;
                subgroupCount = 1;
                for (int i = 0; i < subgroupCount && i < MOST_SUBGROUPS; i++) {
                    for (int e = 0; e < size; e++) {
                        addSubgroup(spanOf(subgroupRow[i] | 1 << e));
                    }
                }
            }
            return subgroupCount;
        }

        private void addSubgroup(int set) {
            for (int i = 0; i < subgroupCount; i++) {
                if (subgroupRow[i] == set) {
                    return;
                }
            }
            if (subgroupCount < MOST_SUBGROUPS) {
                subgroupRow[subgroupCount++] = set;
            }
        }

        int waysOf(int set, int e) {
            int pairs = 0;
            for (int x = 0; x < size; x++) {
                int y = times(inverseOf(x), e);
                pairs += set >> x & set >> y & 1;
            }
            return pairs;
        }

        int countTriples(int set) {
            int triples = 0;
            for (int x = 0; x < size; x++) {
                if ((set >> x & 1) != 0) {
                    triples += Integer.bitCount(moved(x, set, true) & set);
                }
            }
            return triples;
        }

        boolean isFree(int set) {
            for (int x = 0; x < size; x++) {
                if ((set >> x & 1) != 0 && (moved(x, set, true) & set) != 0) {
                    return false;
                }
            }
            return true;
        }

        /** Whether a FREE SET is so with one ELEMENT more, too: only what has that ELEMENT can break it. */
        boolean staysFree(int free, int e) {
            int more = free | 1 << e;
            if ((more >> times(e, e) & 1) != 0) {
                return false;
            }
            for (int x = 0; x < size; x++) {
                if ((free >> x & 1) != 0) {
                    int broken = more >> times(x, e) | more >> times(e, x) | free >> times(inverseOf(x), e);
                    if ((broken & 1) != 0) {
                        return false;
                    }
                }
            }
            return true;
        }

        int openOf(int set) {
            if (!isFree(set)) {
                return 0;
            }
            int bits = 0;
            for (int e = 0; e < size; e++) {
                if ((set >> e & 1) == 0 && staysFree(set, e)) {
                    bits |= 1 << e;
                }
            }
            return bits;
        }

        /** The highest KIND of a FREE SET; it has those below, too: a PRODUCT of two that comes to a SET breaks it. */
        int kindOf(int free) {
            for (int e = 0; e < size; e++) {
                if ((free >> e & 1) == 0 && staysFree(free, e)) {
                    return FREE;
                }
            }
            return (productsOf(free, free) | free) == all ? COMPLETE : FULL;
        }
    }

    /** The generators, and how each element is reached from 0 by multiplying with them. */
    private static final class Basis {
        private final Group group;
        private final int[] generators = new int[MOST_FACTORS];
        private final int[] reach = new int[MOST_FACTORS];
        private final int[] order = new int[MOST_ELEMENTS];
        private final int[] from = new int[MOST_ELEMENTS];
        private final int[] by = new int[MOST_ELEMENTS];
        private int rank;
        private int reached;
        private int seen;

        Basis(Group group) {
            this.group = group;
        }

        void find() {
            rank = 0;
            reached = 1;
            seen = 1;
            order[0] = 0;
            for (int e = 1; e < group.size; e++) {
                if ((seen >> e & 1) == 0 && rank < MOST_FACTORS) {
                    generators[rank++] = e;
                    widen();
                    reach[rank - 1] = reached;
                }
            }
        }

        private void widen() {
            for (int i = 0; i < reached && i < MOST_ELEMENTS; i++) {
                for (int level = 0; level < rank; level++) {
                    int e = group.times(order[i], generators[level]);
                    if ((seen >> e & 1) == 0 && reached < MOST_ELEMENTS) {
                        seen |= 1 << e;
                        order[reached++] = e;
                        from[e] = order[i];
                        by[e] = level;
                    }
                }
            }
        }

        int generatorAt(int i) {
            return i >= 0 && i < rank ? generators[i] : NONE;
        }
    }

    /** A way to send the group into itself or into a ring, told by where the generators go. */
    private static final class Sending {
        private final Group group;
        private final Basis basis;
        private final int[] goals = new int[MOST_FACTORS];
        private final int[] sent = new int[MOST_ELEMENTS];
        // 0: into the group itself, no two to one
        private int ring;

        Sending(Group group, Basis basis) {
            this.group = group;
            this.basis = basis;
        }

        /** Sends the span of the generators up to this one: whether that can be a turn's or a character's part. */
        boolean fits(int level) {
            int reach = basis.reach[level];
            int taken = 1;
            for (int i = 1; i < reach; i++) {
                int e = basis.order[i];
                sent[e] = joined(sent[basis.from[e]], goals[basis.by[e]]);
                if (ring == 0 && (taken >> sent[e] & 1) != 0) {
                    return false;
                }
                taken |= 1 << sent[e];
            }
            for (int i = 0; i < reach; i++) {
                int e = basis.order[i];
                for (int g = 0; g <= level; g++) {
                    int due = joined(sent[e], goals[g]);
                    if (sent[group.times(e, basis.generators[g])] != due) {
                        return false;
                    }
                }
            }
            return true;
        }

        private int joined(int a, int b) {
            if (ring == 0) {
                return group.times(a, b);
            }
            return a + b >= ring ? a + b - ring : a + b;
        }
    }

    /** All free sets, rising; made when first asked for. */
    private static final class FreeSets {
        // no group of a TEXT has more than 3049
        private static final int MOST = 3072;
        private static final int SET_BITS = 0xFFFF;

        private final Group group;
        // the SET, and above its 16 bits its KIND
        private final int[] rows = new int[MOST];
        private int made;

        FreeSets(Group group) {
            this.group = group;
        }

        void forget() {
            made = 0;
        }

        int total() {
            if (made > 0) {
                return made;
            }
            rows[0] = 0;
            made = 1;
            // 0 is its own PRODUCT; the SETS with e come behind all of those below e, in their order
            for (int e = 1; e < group.size; e++) {
                int below = made;
                for (int i = 0; i < below && made < MOST; i++) {
                    if (group.staysFree(rows[i], e)) {
                        rows[made++] = rows[i] | 1 << e;
                    }
                }
            }
            for (int i = 0; i < made; i++) {
                rows[i] |= group.kindOf(rows[i]) << MOST_ELEMENTS;
            }
            return made;
        }

        int setAt(int i) {
            return i >= 0 && i < made ? rows[i] & SET_BITS : 0;
        }

        /** Whether it is of a KIND, and of k ELEMENTS (NONE: any many). */
        boolean fits(int i, int kind, int k) {
            if (i < 0 || i >= made || rows[i] >> MOST_ELEMENTS < kind) {
                return false;
            }
            return k == NONE || Integer.bitCount(setAt(i)) == k;
        }
    }

    /** Parts a set into the fewest free ones. */
    private static final class Colouring {
        private final Group group;
        private final int[] parted = new int[MOST_ELEMENTS];
        private final int[] colours = new int[MOST_ELEMENTS];
        private int known;
        private int fewest;

        Colouring(Group group) {
            this.group = group;
        }

        void forget() {
            known = NONE;
        }

        /** For a set without 0, each element of which is free by itself. */
        int fewestFor(int set) {
            if (known == set) {
                return fewest;
            }
            known = set;
            fewest = 0;
            for (int most = 0; most < MOST_ELEMENTS; most++) {
                fewest = most;
                Arrays.fill(parted, 0);
                if (goesOn(1, 0, set)) {
                    return fewest;
                }
            }
            return fewest;
        }

        int colourOf(int e) {
            fewestFor(group.all & ~1);
            return colours[e & MOST_ELEMENTS - 1];
        }

        /** Colours all elements from e on, the least colours first; a colour is begun only behind those below it. */
        private boolean goesOn(int e, int begun, int set) {
            if (e >= group.size || e >= MOST_ELEMENTS) {
                return true;
            }
            if ((set >> e & 1) == 0) {
                return goesOn(e + 1, begun, set);
            }
            for (int c = 0; c <= begun && c < fewest; c++) {
                if (group.staysFree(parted[c], e)) {
                    parted[c] |= 1 << e;
                    colours[e] = c;
                    if (goesOn(e + 1, Math.max(begun, c + 1), set)) {
                        return true;
                    }
                    parted[c] &= ~(1 << e);
                }
            }
            return false;
        }
    }

    /**
     * The turns of the group. Of those that keep the first generators where they are, one is held for each place to
     * which the next generator can go: every turn is one of the first such row behind one of the second, and so on.
     */
    private static final class Turning {
        private static final int MOST_ROWS = MOST_FACTORS * MOST_ELEMENTS;
        // no ORBIT of a group of a TEXT has more than 2520
        private static final int MOST_IMAGES = 2560;

        private final Group group;
        private final Basis basis;
        private final Sending sending;
        private final int[] rows = new int[MOST_ROWS * MOST_ELEMENTS];
        private final int[] starts = new int[MOST_FACTORS + 1];
        private final int[] images = new int[MOST_IMAGES];
        // a bit for each SET
        private final long[] marks = new long[1 << MOST_ELEMENTS - 6];
        private int made;
        private int turnCount;
        private int imageCount;

        Turning(Group group, Basis basis) {
            this.group = group;
            this.basis = basis;
            sending = new Sending(group, basis);
        }

        void forget() {
            turnCount = 0;
        }

        int total() {
            if (turnCount > 0) {
                return turnCount;
            }
            turnCount = 1;
            made = 0;
            for (int level = 0; level < basis.rank; level++) {
                starts[level] = made;
                for (int goal = 1; goal < group.size; goal++) {
                    sending.goals[level] = goal;
                    if (sending.fits(level) && extend(level + 1)) {
                        addRow();
                    }
                }
                sending.goals[level] = basis.generators[level];
                starts[level + 1] = made;
                turnCount *= made - starts[level];
            }
            return turnCount;
        }

        /** Finds goals for the generators from this one on, as they first fit. */
        private boolean extend(int level) {
            if (level >= basis.rank || level >= MOST_FACTORS) {
                return true;
            }
            for (int goal = 1; goal < group.size; goal++) {
                sending.goals[level] = goal;
                if (sending.fits(level) && extend(level + 1)) {
                    return true;
                }
            }
            return false;
        }

        private void addRow() {
            if (made < MOST_ROWS) {
                System.arraycopy(sending.sent, 0, rows, made * MOST_ELEMENTS, MOST_ELEMENTS);
                made++;
            }
        }

        void forgetImages() {
            Arrays.fill(marks, 0L);
        }

        boolean knowsImage(int set) {
            return (marks[set >> 6 & marks.length - 1] >> set & 1L) != 0;
        }

        /** Lists all sets to which turns send a set that is not known yet. */
        void spread(int set) {
            imageCount = 0;
            if (total() > 0) {
                addImage(set);
            }
            for (int level = basis.rank - 1; level >= 0; level--) {
                int before = imageCount;
                for (int i = 0; i < before; i++) {
                    for (int row = starts[level]; row < starts[level + 1]; row++) {
                        addImage(imageBy(row, images[i]));
                    }
                }
            }
        }

        private void addImage(int set) {
            if (!knowsImage(set) && imageCount < MOST_IMAGES) {
                marks[set >> 6 & marks.length - 1] |= 1L << set;
                images[imageCount++] = set;
            }
        }

        int leastImage() {
            int least = images[0];
            for (int i = 1; i < imageCount; i++) {
                least = Math.min(least, images[i]);
            }
            return least;
        }

        private int imageBy(int row, int set) {
            int start = row * MOST_ELEMENTS;
            int bits = 0;
            for (int e = 0; e < group.size; e++) {
                if ((set >> e & 1) != 0) {
                    bits |= 1 << rows[start + e];
                }
            }
            return bits;
        }
    }

    /** The characters into one ring; kept until another ring is asked for. */
    private static final class Homs {
        // no more than there are ELEMENTS: they are a group that is like a quotient of the group
        private static final int MOST = MOST_ELEMENTS;

        private final Group group;
        private final Basis basis;
        private final Sending sending;
        private final int[] rows = new int[MOST * MOST_ELEMENTS];
        private int made;

        Homs(Group group, Basis basis) {
            this.group = group;
            this.basis = basis;
            sending = new Sending(group, basis);
        }

        void forget() {
            sending.ring = 0;
        }

        int totalInto(int m) {
            if (sending.ring != m) {
                sending.ring = m;
                made = 0;
                list(0);
            }
            return made;
        }

        private void list(int level) {
            if (level >= basis.rank || level >= MOST_FACTORS) {
                addRow();
                return;
            }
            for (int goal = 0; goal < sending.ring; goal++) {
                sending.goals[level] = goal;
                if (sending.fits(level)) {
                    list(level + 1);
                }
            }
        }

        private void addRow() {
            if (made < MOST) {
                System.arraycopy(sending.sent, 0, rows, made * MOST_ELEMENTS, MOST_ELEMENTS);
                made++;
            }
        }

        int valueOf(int k, int e) {
            return k >= 0 && k < made ? rows[k * MOST_ELEMENTS + (e & MOST_ELEMENTS - 1)] : NONE;
        }

        int liftOf(int k, int numbers) {
            int bits = 0;
            for (int e = 0; e < group.size; e++) {
                if ((numbers >> valueOf(k, e) & 1) != 0) {
                    bits |= 1 << e;
                }
            }
            return bits;
        }
    }

    /** What acts change, each one value of one row, and what the latest ones changed. */
    private static final class Acts {
        static final int SHELF = MOST_ELEMENTS;
        static final int SET = MOST_ELEMENTS + SHELVES;
        private static final int VALUES = SET + 1;
        private static final int MOST_UNDONE = 12;

        // WEIGHTS, then SHELVES, then S
        private final int[] values = new int[VALUES];
        private final int[] places = new int[MOST_UNDONE];
        private final int[] olds = new int[MOST_UNDONE];
        private int next;
        private int undoable;

        void restart(int set) {
            for (int place = 0; place < VALUES; place++) {
                values[place] = place < SHELF ? 1 : 0;
            }
            values[SET] = set;
            undoable = 0;
        }

        int set() {
            return values[SET];
        }

        int valueAt(int place) {
            return place >= 0 && place < VALUES ? values[place] : NONE;
        }

        /** Whether that is an act: a value that is so already is none. */
        boolean change(int place, int value) {
            if (place < 0 || place >= VALUES || values[place] == value) {
                return false;
            }
            places[next] = place;
            olds[next] = values[place];
            next = next + 1 < MOST_UNDONE ? next + 1 : 0;
            undoable = Math.min(undoable + 1, MOST_UNDONE);
            values[place] = value;
            return true;
        }

        int takeBack() {
            if (undoable == 0) {
                return NONE;
            }
            next = next > 0 ? next - 1 : MOST_UNDONE - 1;
            values[places[next]] = olds[next];
            undoable--;
            return undoable;
        }

        int weightOf(int set) {
            int sum = 0;
            for (int e = 0; e < MOST_ELEMENTS; e++) {
                if ((set >> e & 1) != 0) {
                    sum += values[e];
                }
            }
            return sum;
        }
    }

    /** A text that is put together for one answer. */
    private static final class Letters {
        // the longest one, of four FACTORS and all ELEMENTS, has less than a hundred
        private static final int MOST = 128;

        private final int[] signs = new int[MOST];
        private int length;

        void clear() {
            length = 0;
        }

        void addWord(String word) {
            for (int i = 0; i < word.length(); i++) {
                addSign(word.charAt(i));
            }
        }

        /** A number of at most three digits, with the blank that stands ahead of each. */
        void addNumber(int number) {
            addSign(' ');
            if (number >= 100) {
                addSign('0' + number / 100);
            }
            if (number >= 10) {
                addSign('0' + number / 10 % 10);
            }
            addSign('0' + number % 10);
        }

        void addEnd() {
            addSign(';');
        }

        void addCounted(String word, int number) {
            addWord(word);
            addNumber(number);
            addEnd();
        }

        private void addSign(int sign) {
            if (length < MOST) {
                signs[length++] = sign;
            }
        }

        int answer(int i) {
            if (i == NONE) {
                return length;
            }
            return i >= 0 && i < length ? signs[i] : MISSING;
        }
    }
}
