import java.util.ArrayList;
import java.util.List;
import java.util.Random;

/** Every group that a TEXT can tell, each call compared with the document's words said plainly. */
public final class ReferenceTest {
    private static final int NONE = SumFreeSets.NONE;
    private static final int PICKED = 24;
    private static final int SMALL = 6;

    private final Check check = new Check();
    private final Plain plain;
    private SumFreeSets x;
    private final Random random;

    private ReferenceTest(Plain plain, int seed) {
        this.plain = plain;
        this.random = new Random(seed);
        x = Check.told(plain.text.startsWith("q") ? "cyclic 7;" : "quaternion;cyclic 2;");
        askKept();
        Check.tell(x, plain.text);
    }

    /** An object is used for at most 512 calls. */
    private void renew() {
        x = Check.told(plain.text);
    }

    /** Asks all that may be kept for a group, so that nothing of it must be left behind the next text. */
    private void askKept() {
        x.subgroups();
        x.many(0, NONE);
        x.classes();
        x.turns();
        x.orbits(0, 2);
        x.lifted(1);
    }

    public static void main(String[] args) {
        Check all = new Check();
        List<List<String>> rows = Plain.allFactors();
        all.about("groups");
        all.due("how many texts", rows.size(), 140);
        boolean right = rows.stream().parallel().allMatch(row -> one(row));
        all.due("all groups are as due", right, true);
        all.end();
    }

    private static boolean one(List<String> row) {
        Plain plain = new Plain(row);
        ReferenceTest test = new ReferenceTest(plain, plain.text.hashCode());
        test.check.about(plain.text);
        test.compareGroup();
        test.compareCounts();
        test.compareColours();
        test.compareTurns();
        test.compareCharacters();
        List<Integer> picked = test.picked();
        for (int i = 0; i < picked.size(); i++) {
            if (i % 2 == 0) {
                test.renew();
            }
            test.compareSet(picked.get(i));
        }
        return test.check.isRight();
    }

    /** All sets of a small group, else some of every size. */
    private List<Integer> picked() {
        List<Integer> sets = new ArrayList<>();
        if (plain.n <= SMALL) {
            for (int set = 0; set < 1 << plain.n; set++) {
                sets.add(set);
            }
            return sets;
        }
        sets.add(0);
        sets.add((1 << plain.n) - 1);
        for (int i = 0; i < PICKED; i++) {
            int set = random.nextInt(1 << plain.n);
            sets.add(i % 3 == 0 ? set : set & random.nextInt(1 << plain.n));
            sets.add(plain.free.get(random.nextInt(plain.free.size())));
            sets.add(plain.span(set & random.nextInt(1 << plain.n) & random.nextInt(1 << plain.n)));
        }
        return sets;
    }

    private void compareGroup() {
        int n = plain.n;
        check.due("count(0)", x.count(0), n);
        for (int a = 0; a < n; a++) {
            for (int b = 0; b < n; b++) {
                check.due("product(" + a + ", " + b + ")", x.product(a, b), plain.product[a][b]);
            }
            check.due("inverse(" + a + ")", x.inverse(a), plain.inverse(a));
            check.due("orderOf(" + a + ")", x.orderOf(a), plain.order(a));
            check.due("alike(" + a + ")", x.alike(a), plain.alike(a));
        }
        check.due("centre()", x.centre(), plain.centre());
        check.due("count(6)", x.count(6), plain.centre() == (1 << n) - 1 ? 1 : 0);
        check.due("kin()", x.kin(), plain.kin());
        check.due("subgroups()", x.subgroups(), plain.subgroups());
        List<Integer> generators = plain.generators();
        check.due("count(10)", x.count(10), generators.size());
        for (int i = 0; i < generators.size(); i++) {
            check.due("generator(" + i + ")", x.generator(i), generators.get(i));
        }
        check.due("generator behind the last", x.generator(generators.size()), -2);
        check.due("spell()", Check.spelled(x), plain.text);
    }

    private void compareCounts() {
        plain.listKinds();
        int greatest = 0;
        for (int set : plain.free) {
            greatest = Math.max(greatest, Integer.bitCount(set));
        }
        check.due("greatest()", x.greatest(), greatest);
        for (int kind = 0; kind < 3; kind++) {
            List<Integer> sets = plain.ofKind(kind);
            check.due("many(" + kind + ", NONE)", x.many(kind, NONE), sets.size());
            int elements = 0;
            int usual = -2;
            int most = 0;
            for (int k = 0; k <= plain.n + 1; k++) {
                List<Integer> row = plain.ofKind(kind, k);
                if (k % 6 == 0) {
                    renew();
                }
                check.due("many(" + kind + ", " + k + ")", x.many(kind, k), row.size());
                compareListed(kind, k, row);
                elements += k * row.size();
                if (row.size() > most) {
                    most = row.size();
                    usual = k;
                }
            }
            check.due("usual(" + kind + ")", x.usual(kind), usual);
            compareMean(kind, elements, sets.size());
        }
    }

    private void compareListed(int kind, int k, List<Integer> row) {
        int step = Math.max(1, row.size() / 40);
        for (int i = 0; i < row.size(); i += step) {
            check.due("nth(" + kind + ", " + k + ", " + i + ")", x.nth(kind, k, i), row.get(i));
        }
        check.due("nth(" + kind + ", " + k + ", " + row.size() + ")", x.nth(kind, k, row.size()), -2);
        check.due("orbits(" + kind + ", " + k + ")", x.orbits(kind, k), plain.orbits(kind, k));
    }

    private void compareMean(int kind, int elements, int sets) {
        int upper = -2;
        int lower = -2;
        for (int divisor = sets; divisor >= 1; divisor--) {
            if (sets % divisor == 0 && elements % divisor == 0) {
                upper = elements / divisor;
                lower = sets / divisor;
                break;
            }
        }
        check.due("mean(" + kind + ", false)", x.mean(kind, false), upper);
        check.due("mean(" + kind + ", true)", x.mean(kind, true), lower);
    }

    private void compareColours() {
        int rest = (1 << plain.n) - 2;
        int classes = plain.parts(rest);
        check.due("classes()", x.classes(), classes);
        int[] colours = plain.colours(rest, classes);
        for (int e = 1; e < plain.n; e++) {
            check.due("colour(" + e + ")", x.colour(e), colours[e]);
        }
        check.due("colour(0)", x.colour(0), -2);
    }

    private void compareTurns() {
        check.due("turns()", x.turns(), plain.turns().size());
    }

    private void compareCharacters() {
        for (int m = 1; m <= 16; m++) {
            renew();
            List<int[]> characters = plain.characters(m);
            check.due("characters(" + m + ")", x.characters(m), characters.size());
            int lifted = 0;
            for (int k = 0; k < characters.size(); k++) {
                int[] character = characters.get(k);
                for (int e = 0; e < plain.n; e++) {
                    check.due("character(" + m + ", " + k + ", " + e + ")", x.character(m, k, e), character[e]);
                }
                int numbers = random.nextInt(1 << m);
                check.due("lift(" + m + ", " + k + ", " + numbers + ")", x.lift(m, k, numbers),
                    Plain.lift(character, numbers));
                lifted = Math.max(lifted, Integer.bitCount(Plain.lift(character, Plain.middle(m))));
            }
            check.due("lift behind the last", x.lift(m, characters.size(), 0), -2);
            check.due("character behind the last", x.character(m, characters.size(), 0), -2);
            check.due("middle(" + m + ")", x.middle(m), Plain.middle(m));
            check.due("lifted(" + m + ")", x.lifted(m), lifted);
        }
    }

    private void compareSet(int set) {
        String told = "(" + set + ")";
        check.due("span" + told, x.span(set), plain.span(set));
        check.due("triples" + told, x.triples(set), plain.tripleList(set).size());
        for (int what = 0; what < 3; what++) {
            int due = plain.isFree(set) ? -2 : plain.tripleList(set).get(0)[what];
            check.due("triple of " + told + " what " + what, x.triple(set, what), due);
        }
        int other = random.nextInt(1 << plain.n);
        check.due("products of " + told + " and " + other, x.products(set, other), plain.products(set, other));
        check.due("quotients" + told, x.quotients(set), plain.products(set, plain.inverses(set)));
        check.due("even" + told, x.even(set), plain.inverses(set) == set ? 1 : 0);
        check.due("copies" + told, x.copies(set), plain.copies(set));
        check.due("open" + told, x.open(set), plain.isFree(set) ? plain.open(set) : 0);
        check.due("energy" + told, x.energy(set), plain.energy(set));
        check.due("covers" + told, x.covers(set), plain.covers(set));
        for (int k : new int[] {1, 2, 3, 4, 7, 16, 64, 98, 99}) {
            check.due("power of " + told + " " + k, x.power(set, k), plain.power(set, k));
        }
        check.due("parts" + told, x.parts(set), Plain.has(set, 0) ? -2 : plain.parts(set));
        check.due("image" + told, x.image(set), plain.orbit(set).first());
        check.due("orbit" + told, x.orbit(set), plain.orbit(set).size());
        compareSides(set, told);
        compareNearest(set, told);
        x.become(set);
        check.due("report" + told, Check.reported(x), plain.reported(set));
        check.due("spell" + told, Check.spelled(x), plain.spelled(set));
    }

    private void compareSides(int set, String told) {
        check.due("normal" + told, x.normal(set), plain.isSubgroup(set) ? plain.normal(set) : -2);
        for (int side = 0; side < 2; side++) {
            boolean left = side == 0;
            check.due("period of " + told + " " + left, x.period(set, left), plain.period(set, left));
            for (int g = 0; g < plain.n; g++) {
                check.due("coset of " + told + " " + g + " " + left, x.coset(set, g, left),
                    plain.isSubgroup(set) ? plain.shifted(g, set, left) : -2);
            }
        }
        for (int e = 0; e < plain.n; e++) {
            check.due("ways of " + told + " " + e, x.ways(set, e), plain.ways(set, e));
        }
    }

    private void compareNearest(int set, String told) {
        int above = 0;
        int below = 0;
        for (int free : plain.free) {
            above += (free & set) == set ? 1 : 0;
            below += (free | set) == set ? 1 : 0;
        }
        check.due("within above " + told, x.within(set, true), above);
        check.due("within below " + told, x.within(set, false), below);
        for (int kind = 0; kind < 3; kind++) {
            check.due("is " + told + " " + kind, x.is(set, kind), plain.isKind(set, kind) ? 1 : 0);
            int apart = -2;
            int nearest = -2;
            for (int one : plain.ofKind(kind)) {
                int unlike = Integer.bitCount(one ^ set);
                if (apart == -2 || unlike < apart) {
                    apart = unlike;
                    nearest = one;
                }
            }
            check.due("nearest to " + told + " " + kind + " 0", x.nearest(set, kind, 0), apart);
            check.due("nearest to " + told + " " + kind + " 1", x.nearest(set, kind, 1), nearest);
        }
    }
}
