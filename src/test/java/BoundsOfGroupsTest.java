import java.util.List;

/** The boundaries of a GROUP: promises 16 to 26, and the terms that say what a GROUP and its FACTORS are. */
public final class BoundsOfGroupsTest {
    private static final int NONE = Sentences.NONE;
    private static final int MIN = Sentences.MIN;
    private static final int MAX = Sentences.MAX;
    private static final String SQUARE = "dihedral 4;";
    private static final Sentences SAYS = new Sentences();

    public static void main(String[] args) {
        sizes();
        zeroLeavesAll();
        cyclicWrapsAround();
        dihedralWrapsAround();
        quaternionSigns();
        severalFactors();
        products();
        inverses();
        orders();
        centres();
        spans();
        subgroups();
        cosets();
        cosetsOfNone();
        cosetsOutOfBounds();
        generators();
        generatorsThatAreNotThere();
        alikes();
        kins();
        normals();
        normalsOfNone();
        noneAheadOfMissing();
        SAYS.end(16, 26);
    }

    private static void due(String call, long got, long want) {
        SAYS.due(call, got, want);
    }

    private static int bits(int... elements) {
        return Sentences.bits(elements);
    }

    private static SumFreeSets told(String text) {
        return Sentences.told(text);
    }

    private static void sizes() {
        SAYS.term("A GROUP of n ELEMENTS 0 .. n less 1 (n at most 16; 0 leaves all as it is; at first n is 1).");
        due("at first", new SumFreeSets().count(0), 1);
        for (List<String> row : Plain.allFactors()) {
            SumFreeSets x = told(String.join("", row));
            int n = x.count(0);
            SAYS.due("at most 16", n >= 1 && n <= 16, true);
            SAYS.due("n less 1 is there", x.product(n - 1, n - 1) >= 0, true);
            due("n is not", x.product(n, 0), NONE);
            due("-1 is not", x.product(0, -1), NONE);
        }
    }

    private static void zeroLeavesAll() {
        SAYS.term("0 leaves all as it is");
        for (List<String> row : Plain.allFactors()) {
            SumFreeSets x = told(String.join("", row));
            int n = x.count(0);
            for (int e = 0; e < n; e++) {
                due(row + " 0 and " + e, x.product(0, e), e);
                due(row + " " + e + " and 0", x.product(e, 0), e);
            }
        }
    }

    private static void cyclicWrapsAround() {
        SAYS.term("cyclic N: ELEMENTS 0 .. N less 1, the PRODUCT of a and b is a and b modulo N.");
        for (int n = 2; n <= 16; n++) {
            SumFreeSets x = told("cyclic " + n + ";");
            for (int a = 0; a < n; a++) {
                due(n + ": up to the last one", x.product(a, n - 1 - a), n - 1);
                if (a > 0) {
                    due(n + ": just round", x.product(a, n - a), 0);
                }
                due(n + ": with the last one", x.product(a, n - 1), a == 0 ? n - 1 : a - 1);
            }
            due(n + ": the farthest", x.product(n - 1, n - 1), n - 2);
        }
    }

    private static void dihedralWrapsAround() {
        SAYS.term("dihedral N: a and N b for a 0 .. N less 1, b 0, 1; the PRODUCT of (a, b) and (c, d) is "
            + "(a and c, if b is 0, a less c, if b is 1, modulo N; b and d modulo 2).");
        for (int n = 1; n <= 8; n++) {
            SumFreeSets x = told("dihedral " + n + ";");
            due("n", x.count(0), 2 * n);
            int last = n - 1;
            due(n + ": (last, 0) (last, 0)", x.product(last, last), (2 * n - 2) % n);
            due(n + ": (last, 0) (last, 1)", x.product(last, last + n), (2 * n - 2) % n + n);
            due(n + ": (0, 1) (last, 0) below 0", x.product(n, last), (n - last) % n + n);
            due(n + ": (0, 1) (last, 1) below 0", x.product(n, last + n), (n - last) % n);
            due(n + ": (last, 1) (0, 0)", x.product(last + n, 0), last + n);
            due(n + ": (last, 1) (last, 0)", x.product(last + n, last), n);
            due(n + ": (last, 1) (last, 1)", x.product(last + n, last + n), 0);
            due(n + ": (0, 1) (0, 1)", x.product(n, n), 0);
            due(n + ": (last, 0) (0, 1)", x.product(last, n), last + n);
        }
        int[][] three = {
            {0, 1, 2, 3, 4, 5}, {1, 2, 0, 4, 5, 3}, {2, 0, 1, 5, 3, 4}, {3, 5, 4, 0, 2, 1}, {4, 3, 5, 1, 0, 2},
            {5, 4, 3, 2, 1, 0},
        };
        compareTable("dihedral 3;", three);
        compareTable("dihedral 1;", new int[][] {{0, 1}, {1, 0}});
        compareTable("dihedral 2;", new int[][] {{0, 1, 2, 3}, {1, 0, 3, 2}, {2, 3, 0, 1}, {3, 2, 1, 0}});
    }

    private static void compareTable(String text, int[][] table) {
        SumFreeSets x = told(text);
        for (int a = 0; a < table.length; a++) {
            for (int b = 0; b < table.length; b++) {
                due(text + " product(" + a + ", " + b + ")", x.product(a, b), table[a][b]);
            }
        }
    }

    private static void quaternionSigns() {
        SAYS.term("quaternion: 0 one, 1 i, 2 j, 3 k, 4 and that the opposite of each (i i, j j, k k are the "
            + "opposite of one; "
            + "i j is k, j k is i, k i is j, the other way round the opposite).");
        int[][] positive = {{0, 1, 2, 3}, {1, 4, 3, 6}, {2, 7, 4, 1}, {3, 2, 5, 4}};
        int[][] table = new int[8][8];
        for (int a = 0; a < 8; a++) {
            for (int b = 0; b < 8; b++) {
                table[a][b] = (positive[a % 4][b % 4] + (a / 4 + b / 4) % 2 * 4) % 8;
            }
        }
        compareTable("quaternion;", table);
    }

    private static void severalFactors() {
        SAYS.term("Of several FACTORS the GROUP is the row of one ELEMENT of each, PRODUCTS each by itself, "
            + "its number: "
            + "that of the first, and its size times that of the second, and so on.");
        SumFreeSets x = told("cyclic 2;cyclic 3;");
        due("the first wraps around, nothing is carried", x.product(1, 1), 0);
        due("the second wraps around", x.product(4, 2), 0);
        due("both", x.product(5, 5), 2);
        x = told("cyclic 3;cyclic 2;");
        due("the other order", x.product(2, 2), 1);
        due("the other order, both", x.product(5, 5), 1);
        x = told("cyclic 2;cyclic 2;cyclic 2;cyclic 2;");
        due("15 and 15", x.product(15, 15), 0);
        due("8 and 7", x.product(8, 7), 15);
        due("12 and 10", x.product(12, 10), 6);
        x = told("cyclic 2;dihedral 2;dihedral 1;");
        due("9 and 15", x.product(9, 15), 6);
        x = told("dihedral 4;cyclic 2;");
        // 7 is (3, 1), 9 is (1, 0) and 1
        due("no ring ahead", x.product(7, 9), 6 + 8);
        x = told("cyclic 2;dihedral 4;");
        // 15 is 1 and (3, 1), 3 is 1 and (1, 0)
        due("no ring behind", x.product(15, 3), 2 * 6);
        x = told("quaternion;cyclic 2;");
        due("i and 1, j and 1", x.product(9, 10), 3);
        x = told("cyclic 2;quaternion;");
        due("1 and i, 1 and j", x.product(3, 5), 6);
        due("FACTORS", x.count(1), 2);
        due("FACTORS at first", new SumFreeSets().count(1), 0);
    }

    private static void products() {
        SAYS.promise(16, "PRODUCT. NONE: no such ELEMENTS.");
        SAYS.noSuchElement((x, e) -> x.product(e, 0));
        SAYS.noSuchElement((x, e) -> x.product(0, e));
        SAYS.noSuchElement((x, e) -> x.product(e, e));
        SumFreeSets x = told("cyclic 16;");
        due("both", x.product(16, -1), NONE);
        due("both", x.product(MIN, MAX), NONE);
        due("the last two", x.product(15, 15), 14);
    }

    private static void inverses() {
        SAYS.promise(17, "The ELEMENT whose PRODUCT with a is 0. NONE: no such ELEMENT.");
        SAYS.noSuchElement((x, e) -> x.inverse(e));
        for (List<String> row : Plain.allFactors()) {
            SumFreeSets x = told(String.join("", row));
            int n = x.count(0);
            due(row + " of 0", x.inverse(0), 0);
            for (int a = 0; a < n; a++) {
                due(row + " of " + a, x.product(a, x.inverse(a)), 0);
                due(row + " of " + a + " the other way", x.product(x.inverse(a), a), 0);
            }
        }
    }

    private static void orders() {
        SAYS.promise(18, "How often a is to be taken till the PRODUCT is 0. NONE: no such ELEMENT.");
        SAYS.noSuchElement((x, e) -> x.orderOf(e));
        due("of 0", new SumFreeSets().orderOf(0), 1);
        SumFreeSets x = told("cyclic 16;");
        int[] orders = {1, 16, 8, 16, 4, 16, 8, 16, 2, 16, 8, 16, 4, 16, 8, 16};
        for (int a = 0; a < 16; a++) {
            due("of " + a, x.orderOf(a), orders[a]);
        }
        x = told("quaternion;");
        int[] signs = {1, 4, 4, 4, 2, 4, 4, 4};
        for (int a = 0; a < 8; a++) {
            due("of a quaternion " + a, x.orderOf(a), signs[a]);
        }
        due("of both parts", told("cyclic 3;cyclic 4;").orderOf(4), 12);
        due("of a flip", told("dihedral 8;").orderOf(15), 2);
    }

    private static void centres() {
        SAYS.promise(19, "ELEMENTS whose PRODUCT with each other one is the same both ways round (bits).");
        due("n is 1", new SumFreeSets().centre(), 1);
        due("all of 16", told("cyclic 16;").centre(), 65535);
        due("0 alone", told("dihedral 7;").centre(), 1);
        due("a half turn", told("dihedral 8;").centre(), bits(0, 4));
        due("all of a small one", told("dihedral 2;").centre(), 15);
        due("one and its opposite", told("quaternion;").centre(), bits(0, 4));
        due("and a ring", told("quaternion;cyclic 2;").centre(), bits(0, 4, 8, 12));
    }

    private static void spans() {
        SAYS.promise(20, "SPAN. NONE: out of bounds.");
        SAYS.setOutOfBounds((x, set) -> x.span(set));
        due("of none, n is 1", new SumFreeSets().span(0), 1);
        due("of none", told("cyclic 16;").span(0), 1);
        due("of 0", told("cyclic 16;").span(1), 1);
        due("of all", told("cyclic 16;").span(65535), 65535);
        due("of the last one", told("cyclic 16;").span(1 << 15), 65535);
        due("of a half", told("cyclic 16;").span(1 << 8), bits(0, 8));
        due("of flips", told(SQUARE).span(bits(4, 5)), 255);
        due("of two parts", told("cyclic 2;cyclic 2;cyclic 2;cyclic 2;").span(bits(1, 2, 4, 8)), 65535);
        SAYS.term("SPAN: the least SUBGROUP (0 is in it; PRODUCTS of any two are) that holds a SET.");
        for (String text : new String[] {"cyclic 6;", "dihedral 3;", "quaternion;"}) {
            SumFreeSets x = told(text);
            for (int set = 0; set < 64; set++) {
                int span = x.span(set);
                SAYS.due(text + " " + set + " holds 0 and it", (span & 1) == 1 && (span & set) == set, true);
                due(text + " " + set + " holds all PRODUCTS", x.products(span, span), span);
                due(text + " " + set + " once more", x.span(span), span);
            }
        }
    }

    private static void subgroups() {
        SAYS.promise(21, "How many SUBGROUPS there are.");
        int[] divisors = {1, 2, 2, 3, 2, 4, 2, 4, 3, 4, 2, 6, 2, 4, 4, 5};
        due("n is 1", new SumFreeSets().subgroups(), 1);
        for (int n = 2; n <= 16; n++) {
            due("of a ring of " + n, told("cyclic " + n + ";").subgroups(), divisors[n - 1]);
        }
        due("the most", told("cyclic 2;cyclic 2;cyclic 2;cyclic 2;").subgroups(), 67);
        due("dihedral 8", told("dihedral 8;").subgroups(), 19);
        due("asked again", told("quaternion;").subgroups(), 6);
    }

    private static void cosets() {
        SAYS.promise(22, "Of a SUBGROUP the coset of g (left: PRODUCTS of g and each of it): bits;");
        SumFreeSets x = told(SQUARE);
        for (int g = 0; g < 8; g++) {
            for (boolean left : new boolean[] {true, false}) {
                due("of 0 alone", x.coset(1, g, left), 1 << g);
                due("of all", x.coset(255, g, left), 255);
            }
        }
        due("left", x.coset(bits(0, 4), 1, true), bits(1, 5));
        due("right", x.coset(bits(0, 4), 1, false), bits(1, 7));
        due("of 0", x.coset(bits(0, 4), 0, true), bits(0, 4));
        due("of the last one", x.coset(bits(0, 4), 7, true), bits(7, 3));
        due("n is 1", new SumFreeSets().coset(1, 0, true), 1);
        due("n is 16", told("cyclic 16;").coset(0x5555, 15, true), 0xAAAA);
    }

    private static void cosetsOfNone() {
        SAYS.promise(22, "-2: the SET is no SUBGROUP.");
        SumFreeSets x = told(SQUARE);
        for (boolean left : new boolean[] {true, false}) {
            due("empty", x.coset(0, 0, left), -2);
            due("without 0", x.coset(bits(2), 1, left), -2);
            due("all but 0", x.coset(254, 1, left), -2);
            due("all but the last one", x.coset(127, 1, left), -2);
            due("no PRODUCTS", x.coset(bits(0, 1), 1, left), -2);
            due("a coset", x.coset(bits(1, 3), 1, left), -2);
        }
        due("n is 1, empty", new SumFreeSets().coset(0, 0, true), -2);
    }

    private static void cosetsOutOfBounds() {
        SAYS.promise(22, "NONE: out of bounds, no such ELEMENT.");
        for (boolean left : new boolean[] {true, false}) {
            SAYS.setOutOfBounds((x, set) -> x.coset(set, 0, left));
            SAYS.noSuchElement((x, g) -> x.coset(1, g, left));
            SAYS.noSuchElement((x, g) -> x.coset(0, g, left));
        }
    }

    private static void generators() {
        SAYS.promise(23, "The i-th GENERATOR;");
        due("of 16", told("cyclic 16;").generator(0), 1);
        int[][] rows = {{1, 2, 4, 8}, {1, 2, 4}, {1, 4}, {1, 2}};
        String[] texts = {"cyclic 2;cyclic 2;dihedral 1;cyclic 2;", "cyclic 2;quaternion;", SQUARE, "quaternion;"};
        for (int t = 0; t < texts.length; t++) {
            SumFreeSets x = told(texts[t]);
            for (int i = 0; i < rows[t].length; i++) {
                due(texts[t] + " " + i, x.generator(i), rows[t][i]);
            }
            due(texts[t] + " behind the last", x.generator(rows[t].length), -2);
            due(texts[t] + " how many", x.count(10), rows[t].length);
        }
        SAYS.term("GENERATORS: 1 and up: each ELEMENT that is not in the SPAN of those ahead that are.");
        due("1 of 2", told("cyclic 2;").generator(0), 1);
        due("3 of 2 and 3", told("cyclic 2;cyclic 3;").generator(1), 2);
        due("none, n is 1", new SumFreeSets().count(10), 0);
    }

    private static void generatorsThatAreNotThere() {
        SAYS.promise(23, "-2: there are not so many. NONE: i below 0.");
        SAYS.onlyFrom(0, (x, i) -> x.generator(i));
        SumFreeSets x = new SumFreeSets();
        due("none of 1", x.generator(0), -2);
        due("none of 1", x.generator(MAX), -2);
        due("below 0", x.generator(-1), NONE);
        x = told("cyclic 16;");
        due("one of 16", x.generator(1), -2);
        due("far behind", x.generator(MAX), -2);
        due("far below 0", x.generator(MIN), NONE);
        due("four of 16", told("cyclic 2;cyclic 2;cyclic 2;cyclic 2;").generator(4), -2);
    }

    private static void alikes() {
        SAYS.promise(24, "ELEMENTS that are PRODUCTS of g, e, and the inverse of g, of any g (bits). NONE: no "
            + "such ELEMENT.");
        SAYS.noSuchElement((x, e) -> x.alike(e));
        for (String text : new String[] {"", "cyclic 16;", "dihedral 7;", "quaternion;"}) {
            due(text + " 0", told(text).alike(0), 1);
        }
        due("in a ring", told("cyclic 16;").alike(15), 1 << 15);
        due("turns", told("dihedral 7;").alike(1), bits(1, 6));
        due("all flips", told("dihedral 7;").alike(13), 0x3F80);
        due("every other flip", told("dihedral 8;").alike(15), bits(9, 11, 13, 15));
        due("k", told("quaternion;").alike(7), bits(3, 7));
    }

    private static void kins() {
        SAYS.promise(25, "How many unlike such SETS there are.");
        due("n is 1", new SumFreeSets().kin(), 1);
        due("a ring", told("cyclic 16;").kin(), 16);
        due("dihedral 1", told("dihedral 1;").kin(), 2);
        due("dihedral 7", told("dihedral 7;").kin(), 5);
        due("dihedral 8", told("dihedral 8;").kin(), 7);
        due("quaternion and 2", told("quaternion;cyclic 2;").kin(), 10);
    }

    private static void normals() {
        SAYS.promise(26, "Whether all cosets of a SUBGROUP are the same both ways (1, 0);");
        due("n is 1", new SumFreeSets().normal(1), 1);
        SumFreeSets x = told(SQUARE);
        due("0 alone", x.normal(1), 1);
        due("all", x.normal(255), 1);
        due("a half", x.normal(bits(0, 2)), 1);
        due("turns", x.normal(15), 1);
        due("flips", x.normal(bits(0, 2, 5, 7)), 1);
        for (int flip = 4; flip < 8; flip++) {
            due("a flip", x.normal(bits(0, flip)), 0);
        }
        due("of quaternions", told("quaternion;").normal(bits(0, 1, 4, 5)), 1);
        due("n is 16", told("dihedral 8;").normal(bits(0, 15)), 0);
    }

    private static void normalsOfNone() {
        SAYS.promise(26, "-2: the SET is no SUBGROUP. NONE: out of bounds.");
        SAYS.setOutOfBounds((x, set) -> x.normal(set));
        SumFreeSets x = told(SQUARE);
        due("empty", x.normal(0), -2);
        due("without 0", x.normal(bits(2)), -2);
        due("all but 0", x.normal(254), -2);
        due("all but the last one", x.normal(127), -2);
        due("no PRODUCTS", x.normal(bits(0, 1)), -2);
        due("n is 1, empty", new SumFreeSets().normal(0), -2);
    }

    private static void noneAheadOfMissing() {
        SAYS.term("Where NONE and -2 could both be told, it is NONE.");
        SumFreeSets x = told(SQUARE);
        due("coset of no SUBGROUP, no such ELEMENT", x.coset(0, 8, true), NONE);
        due("coset of no SUBGROUP, no such ELEMENT", x.coset(2, -1, false), NONE);
        due("coset, out of bounds and no SUBGROUP", x.coset(256, 0, true), NONE);
        due("normal, out of bounds and no SUBGROUP", x.normal(258), NONE);
        due("normal, below 0", x.normal(-2), NONE);
    }
}
