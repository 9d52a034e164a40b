import java.util.List;

/** The boundaries of SETS: promises 27 to 39, and the terms that say what FREE, FULL and COMPLETE are. */
public final class BoundsOfSetsTest {
    private static final int NONE = Sentences.NONE;
    private static final String TRIANGLE = "dihedral 3;";
    private static final String FOUR_TWOS = "cyclic 2;cyclic 2;cyclic 2;cyclic 2;";
    private static final Sentences SAYS = new Sentences();

    public static void main(String[] args) {
        setsOutOfBounds();
        free();
        full();
        complete();
        powers();
        powersOutOfBounds();
        covers();
        coversNever();
        kinds();
        otherKinds();
        triples();
        firstTriples();
        noTriple();
        products();
        quotients();
        evens();
        copies();
        opens();
        opensOfNone();
        periods();
        ways();
        waysOutOfBounds();
        energies();
        noneAheadOfMissing();
        SAYS.end(27, 39);
    }

    private static void due(String call, long got, long want) {
        SAYS.due(call, got, want);
    }

    private static int bits(int... elements) {
        return Sentences.bits(elements);
    }

    private static SumFreeSets told(String text) {
        return Sentences.told(text);
    }

    private static void setsOutOfBounds() {
        SAYS.term("A SET out of bounds: below 0, an ELEMENT that is not there.");
        for (int n = 1; n <= 16; n++) {
            SumFreeSets x = n == 1 ? new SumFreeSets() : told("cyclic " + n + ";");
            for (int e = 0; e < 32; e++) {
                due(n + ": 0 and ELEMENT " + e, Math.min(1, x.triples(1 << e | 1)), e < n ? 1 : NONE);
                due(n + ": ELEMENT " + e + " alone", x.quotients(1 << e), e < n ? 1 : NONE);
            }
            due(n + ": all", x.triples((1 << n) - 1), n * n);
            due(n + ": below 0", x.triples(-1), NONE);
        }
    }

    private static void free() {
        SAYS.term("A SET is FREE, if no PRODUCT of two of its ELEMENTS (of one and itself, too) is one of them.");
        SumFreeSets x = told("cyclic 8;");
        due("empty", x.is(0, 0), 1);
        due("0 and itself", x.is(1, 0), 0);
        due("0 and another one", x.is(bits(0, 5), 0), 0);
        due("one and itself", x.is(bits(3, 6), 0), 0);
        due("one and itself, wrapped around", x.is(bits(7, 6), 0), 0);
        due("two", x.is(bits(1, 4, 5), 0), 0);
        due("two, wrapped around", x.is(bits(7, 4, 3), 0), 0);
        due("none", x.is(bits(1, 4, 7), 0), 1);
        due("all but 0", x.is(254, 0), 0);
        due("all", x.is(255, 0), 0);
        x = told(TRIANGLE);
        due("one order alone: 1 3 is 4, 3 1 is 5", x.is(bits(1, 3, 5), 0), 0);
        due("the other one", x.is(bits(1, 3, 4), 0), 0);
        due("flips", x.is(bits(3, 4, 5), 0), 1);
        due("n is 1, empty", new SumFreeSets().is(0, 0), 1);
        due("n is 1, 0", new SumFreeSets().is(1, 0), 0);
    }

    private static void full() {
        SAYS.term("FULL: FREE, and with any other ELEMENT more it is not.");
        SumFreeSets x = told("cyclic 8;");
        due("odd ones", x.is(0xAA, 1), 1);
        due("one too few", x.is(0x2A, 1), 0);
        due("not FREE", x.is(255, 1), 0);
        due("not FREE, without 0", x.is(254, 1), 0);
        due("0", x.is(1, 1), 0);
        due("empty", x.is(0, 1), 0);
        due("empty, n is 1: 0 can't come", new SumFreeSets().is(0, 1), 1);
        due("0, n is 1", new SumFreeSets().is(1, 1), 0);
        due("the only other one", told("cyclic 2;").is(2, 1), 1);
        due("the last one can come", told("cyclic 4;").is(bits(1), 1), 0);
        due("2 of 4, by which 1 and 3 can't come", told("cyclic 4;").is(bits(2), 1), 1);
    }

    private static void complete() {
        SAYS.term("COMPLETE: FREE, and each ELEMENT that is not in it is a PRODUCT of two that are.");
        due("odd ones", told("cyclic 8;").is(0xAA, 2), 1);
        due("1 of 2: 0 is 1 and 1", told("cyclic 2;").is(2, 2), 1);
        due("FULL, but 0 is none", told("cyclic 3;").is(2, 2), 0);
        due("FULL, but 1 and 3 are none", told("cyclic 4;").is(bits(2), 2), 0);
        due("empty, n is 1: 0 is none", new SumFreeSets().is(0, 2), 0);
        due("all PRODUCTS, not FREE", told("cyclic 4;").is(15, 2), 0);
        due("n is 16", told("cyclic 16;").is(0xAAAA, 2), 1);
        due("one and itself", told("cyclic 5;").is(bits(2, 3), 2), 1);
    }

    private static void powers() {
        SAYS.promise(27, "PRODUCTS of k (1 .. 99) ELEMENTS of a SET, one behind the other, each as often as "
            + "one likes.");
        SumFreeSets x = told("cyclic 16;");
        for (int k = 1; k <= 99; k++) {
            due("of 1, " + k, x.power(bits(1), k), 1 << k % 16);
            due("of 0, " + k, x.power(1, k), 1);
            due("of none, " + k, x.power(0, k), 0);
            due("of all, " + k, x.power(65535, k), 65535);
        }
        x = told("dihedral 8;");
        for (int k = 1; k <= 99; k++) {
            due("of a flip, " + k, x.power(1 << 15, k), k % 2 == 0 ? 1 : 1 << 15);
        }
        Plain plain = new Plain(List.of(TRIANGLE));
        SumFreeSets six = told(TRIANGLE);
        for (int k = 1; k <= 7; k++) {
            for (int set = 0; set < 64; set++) {
                due("of a triangle's " + set + ", " + k, six.power(set, k), plain.power(set, k));
            }
        }
        due("n is 1", new SumFreeSets().power(1, 99), 1);
        due("n is 1, of none", new SumFreeSets().power(0, 1), 0);
    }

    private static void powersOutOfBounds() {
        SAYS.promise(27, "NONE: out of bounds.");
        SAYS.setOutOfBounds((x, set) -> x.power(set, 1));
        SAYS.setOutOfBounds((x, set) -> x.power(set, 99));
        SAYS.onlyFromTo(1, 99, (x, k) -> x.power(1, k));
        SAYS.onlyFromTo(1, 99, (x, k) -> x.power(0, k));
        due("both", told("cyclic 5;").power(32, 0), NONE);
    }

    private static void covers() {
        SAYS.promise(28, "The least k (1 .. 99) by which these are all ELEMENTS;");
        SAYS.setOutOfBounds((x, set) -> x.covers(set));
        for (int n = 2; n <= 16; n++) {
            SumFreeSets x = told("cyclic " + n + ";");
            int all = (1 << n) - 1;
            due(n + ": all", x.covers(all), 1);
            due(n + ": 0 and 1", x.covers(3), n - 1);
            due(n + ": 0 and the last one", x.covers(1 | 1 << n - 1), n - 1);
            if (n > 2) {
                due(n + ": all but 0", x.covers(all - 1), 2);
                due(n + ": 1 and 2", x.covers(6), n - 1);
            }
        }
        due("n is 1", new SumFreeSets().covers(1), 1);
        due("no ring", told(TRIANGLE).covers(bits(0, 1, 3)), 2);
        due("no ring, without 0", told(TRIANGLE).covers(bits(1, 2, 3)), 3);
        due("four", told(FOUR_TWOS).covers(bits(0, 1, 2, 4, 8)), 4);
    }

    private static void coversNever() {
        SAYS.promise(28, "-2: none is. NONE: out of bounds.");
        SumFreeSets x = told("cyclic 16;");
        due("empty", x.covers(0), -2);
        due("0", x.covers(1), -2);
        due("1", x.covers(2), -2);
        due("odd ones", x.covers(0xAAAA), -2);
        due("even ones", x.covers(0x5555), -2);
        due("two odd ones", x.covers(bits(1, 3)), -2);
        due("n is 1, empty", new SumFreeSets().covers(0), -2);
        due("flips", told(TRIANGLE).covers(bits(3, 4, 5)), -2);
        due("without 0", told(FOUR_TWOS).covers(bits(1, 2, 4, 8)), -2);
        due("out of bounds", x.covers(65536), NONE);
        due("out of bounds", x.covers(-1), NONE);
    }

    private static void kinds() {
        SAYS.promise(29, "Whether a SET is of a KIND (1, 0).");
        SAYS.setOutOfBounds((x, set) -> x.is(set, 0));
        SAYS.setOutOfBounds((x, set) -> x.is(set, 1));
        SAYS.setOutOfBounds((x, set) -> x.is(set, 2));
        for (String text : new String[] {"cyclic 3;", "cyclic 6;", TRIANGLE}) {
            Plain plain = new Plain(List.of(text));
            SumFreeSets x = told(text);
            for (int set = 0; set < 1 << plain.n; set++) {
                for (int kind = 0; kind < 3; kind++) {
                    due(text + " is(" + set + ", " + kind + ")", x.is(set, kind), plain.isKind(set, kind) ? 1 : 0);
                }
            }
        }
    }

    private static void otherKinds() {
        SAYS.promise(29, "NONE: out of bounds, another KIND.");
        SAYS.onlyFromTo(0, 2, (x, kind) -> x.is(0, kind));
        SAYS.onlyFromTo(0, 2, (x, kind) -> x.is(1, kind));
        due("both", told("cyclic 5;").is(-1, 3), NONE);
    }

    private static void triples() {
        SAYS.promise(30, "How many TRIPLES (x, y in order). NONE: out of bounds.");
        SAYS.setOutOfBounds((x, set) -> x.triples(set));
        due("n is 1, none", new SumFreeSets().triples(0), 0);
        due("n is 1, 0", new SumFreeSets().triples(1), 1);
        SumFreeSets x = told("cyclic 16;");
        due("none", x.triples(0), 0);
        due("all", x.triples(65535), 256);
        due("one and itself counts once", x.triples(bits(1, 2)), 1);
        due("two count in both orders", x.triples(bits(1, 4, 5)), 2);
        due("0 with each", x.triples(bits(0, 7)), 3);
        due("wrapped around", x.triples(bits(15, 14)), 1);
        due("in a triangle", told(TRIANGLE).triples(bits(1, 3, 4)), 3);
        SAYS.term("A TRIPLE: x, y, and their PRODUCT, all in the SET.");
        due("x and y alone", x.triples(bits(1, 4)), 0);
        due("one of both and the PRODUCT", x.triples(bits(1, 5)), 0);
        due("x and y may be the PRODUCT", x.triples(bits(0)), 1);
    }

    private static void firstTriples() {
        SAYS.promise(31, "The first TRIPLE (by x, then y): what 0 x, 1 y, 2 their PRODUCT;");
        SumFreeSets x = told("cyclic 16;");
        // (2,3,5) (3,2,5) (5,5,10) (3,3,6): by x 2 comes first
        int set = bits(2, 3, 5, 6, 10);
        due("x", x.triple(set, 0), 2);
        due("y", x.triple(set, 1), 3);
        due("PRODUCT", x.triple(set, 2), 5);
        // (6,10,0) has no 0; (6,6,12): y 6 comes ahead of (6,15,5)
        set = bits(5, 6, 12, 15);
        due("x by y", x.triple(set, 0), 6);
        due("y by y", x.triple(set, 1), 6);
        due("PRODUCT by y", x.triple(set, 2), 12);
        set = bits(14, 15);
        due("the last x", x.triple(set, 0), 15);
        due("the last y", x.triple(set, 1), 15);
        due("the last PRODUCT", x.triple(set, 2), 14);
        for (int what = 0; what < 3; what++) {
            due("0 with itself", x.triple(65535, what), 0);
            due("n is 1", new SumFreeSets().triple(1, what), 0);
        }
        x = told(TRIANGLE);
        due("no ring, y", x.triple(bits(1, 3, 5), 1), 5);
        due("no ring, PRODUCT", x.triple(bits(1, 3, 5), 2), 3);
    }

    private static void noTriple() {
        SAYS.promise(31, "-2: it is FREE. NONE: out of bounds, another what.");
        SAYS.setOutOfBounds((x, set) -> x.triple(set, 0));
        SAYS.setOutOfBounds((x, set) -> x.triple(set, 1));
        SAYS.setOutOfBounds((x, set) -> x.triple(set, 2));
        SAYS.onlyFromTo(0, 2, (x, what) -> x.triple(0, what));
        SAYS.onlyFromTo(0, 2, (x, what) -> x.triple(1, what));
        for (int what = 0; what < 3; what++) {
            due("empty", told("cyclic 5;").triple(0, what), -2);
            due("FULL", told("cyclic 5;").triple(bits(1, 4), what), -2);
            due("n is 1", new SumFreeSets().triple(0, what), -2);
            due("n is 16", told("cyclic 16;").triple(0xAAAA, what), -2);
        }
    }

    private static void products() {
        SAYS.promise(32, "PRODUCTS of two SETS. NONE: out of bounds.");
        SAYS.setOutOfBounds((x, set) -> x.products(set, 1));
        SAYS.setOutOfBounds((x, set) -> x.products(1, set));
        SAYS.setOutOfBounds((x, set) -> x.products(set, 0));
        SAYS.setOutOfBounds((x, set) -> x.products(0, set));
        SAYS.setOutOfBounds((x, set) -> x.products(set, set));
        SumFreeSets x = told("cyclic 16;");
        due("empty with all", x.products(0, 65535), 0);
        due("all with empty", x.products(65535, 0), 0);
        due("0 with one", x.products(1, bits(15)), bits(15));
        due("all with one", x.products(65535, bits(15)), 65535);
        due("wrapped around", x.products(bits(15), bits(1, 15)), bits(0, 14));
        x = told(TRIANGLE);
        due("1 ahead of 3", x.products(bits(1), bits(3)), bits(4));
        due("3 ahead of 1", x.products(bits(3), bits(1)), bits(5));
    }

    private static void quotients() {
        SAYS.promise(33, "All PRODUCTS of an ELEMENT of a SET and the inverse of one. NONE: out of bounds.");
        SAYS.setOutOfBounds((x, set) -> x.quotients(set));
        SumFreeSets x = told("cyclic 16;");
        due("empty", x.quotients(0), 0);
        due("one", x.quotients(bits(15)), 1);
        due("two", x.quotients(bits(0, 15)), bits(0, 1, 15));
        due("all", x.quotients(65535), 65535);
        due("the inverse comes second: 3 2, 1 3", told(TRIANGLE).quotients(bits(1, 3)), bits(0, 4));
        // 1 8 is 9, 8 7 is 8 7, that is (0 less 7, 1)
        due("the inverse is taken", told("dihedral 8;").quotients(bits(1, 8)), bits(0, 9));
    }

    private static void evens() {
        SAYS.promise(34, "Whether a SET holds the inverse of each of its ELEMENTS (1, 0). NONE: out of bounds.");
        SAYS.setOutOfBounds((x, set) -> x.even(set));
        SumFreeSets x = told("cyclic 16;");
        due("empty", x.even(0), 1);
        due("0", x.even(1), 1);
        due("the half", x.even(bits(8)), 1);
        due("one of two", x.even(bits(1)), 0);
        due("the last one", x.even(bits(15)), 0);
        due("both", x.even(bits(1, 15)), 1);
        due("all", x.even(65535), 1);
        due("all but one", x.even(32767), 0);
        due("n is 1", new SumFreeSets().even(1), 1);
    }

    private static void copies() {
        SAYS.promise(35, "How many unlike SETS there are of all PRODUCTS of g and its ELEMENTS, by all g. "
            + "NONE: out of bounds.");
        SAYS.setOutOfBounds((x, set) -> x.copies(set));
        SumFreeSets x = told("cyclic 16;");
        due("empty", x.copies(0), 1);
        due("all", x.copies(65535), 1);
        due("one", x.copies(bits(15)), 16);
        due("all but one", x.copies(32767), 16);
        due("odd ones", x.copies(0xAAAA), 2);
        due("0 and 8", x.copies(bits(0, 8)), 8);
        due("n is 1, 0", new SumFreeSets().copies(1), 1);
        due("n is 1, empty", new SumFreeSets().copies(0), 1);
        // 0 and 7 ahead of the first, but behind the second one, leave it as it is
        due("g ahead", told("dihedral 7;").copies(bits(0, 1, 3, 7, 11, 13)), 7);
        due("g not behind", told("dihedral 7;").copies(bits(0, 4, 6, 7, 11, 13)), 14);
    }

    private static void opens() {
        SAYS.promise(36, "ELEMENTS that are not in a SET and with any one of which it is FREE (bits).");
        SumFreeSets x = told("cyclic 16;");
        due("empty: all but 0", x.open(0), 65534);
        due("odd ones", x.open(0xAAAA), 0);
        due("all odd ones but the last", x.open(0x2AAA), bits(15));
        due("all odd ones but the first", x.open(0xAAA8), bits(1));
        due("n is 1", new SumFreeSets().open(0), 0);
        due("n is 2", told("cyclic 2;").open(0), 2);
        // with 1: not 2 (1 1), not 0, not 3 (3 3 is 1 of 5)
        due("n is 5", told("cyclic 5;").open(2), bits(4));
        due("those in it are not", told("cyclic 5;").open(bits(1, 4)), 0);
        due("any one, not all together", told(TRIANGLE).open(bits(3)), bits(1, 2, 4, 5));
    }

    private static void opensOfNone() {
        SAYS.promise(36, "NONE: out of bounds.");
        SAYS.setOutOfBounds((x, set) -> x.open(set));
        due("not FREE, so with none", told("cyclic 5;").open(1), 0);
        due("not FREE, so with none", told("cyclic 16;").open(bits(1, 2)), 0);
        due("all", told("cyclic 16;").open(65535), 0);
    }

    private static void periods() {
        SAYS.promise(37, "ELEMENTS g by which a SET stays the same (left: PRODUCTS of g and each of it): "
            + "bits. NONE: out of bounds.");
        for (boolean left : new boolean[] {true, false}) {
            SAYS.setOutOfBounds((x, set) -> x.period(set, left));
            SumFreeSets x = told("cyclic 16;");
            due("empty", x.period(0, left), 65535);
            due("all", x.period(65535, left), 65535);
            due("one", x.period(bits(15), left), 1);
            due("all but one", x.period(65534, left), 1);
            due("odd ones", x.period(0xAAAA, left), 0x5555);
            due("0 and 8", x.period(bits(7, 15), left), bits(0, 8));
            due("n is 1", new SumFreeSets().period(0, left), 1);
            due("n is 1, 0", new SumFreeSets().period(1, left), 1);
        }
        due("left", told(TRIANGLE).period(bits(1, 4), true), bits(0, 5));
        due("right", told(TRIANGLE).period(bits(1, 4), false), bits(0, 3));
    }

    private static void ways() {
        SAYS.promise(38, "WAYS of an ELEMENT.");
        SumFreeSets x = told("cyclic 16;");
        for (int e = 0; e < 16; e++) {
            due("of none", x.ways(0, e), 0);
            due("of all", x.ways(65535, e), 16);
            due("of the last one", x.ways(bits(15), e), e == 14 ? 1 : 0);
        }
        due("one with itself counts once", x.ways(bits(1, 15), 2), 1);
        due("two count in both orders", x.ways(bits(1, 15), 0), 2);
        due("an ELEMENT that is not in it", x.ways(bits(1, 2), 3), 2);
        due("1 3 alone", told(TRIANGLE).ways(bits(1, 3), 4), 1);
        due("3 1 alone", told(TRIANGLE).ways(bits(1, 3), 5), 1);
        due("n is 1", new SumFreeSets().ways(1, 0), 1);
        due("n is 1, of none", new SumFreeSets().ways(0, 0), 0);
        SAYS.term("WAYS of an ELEMENT: how many pairs x, y of a SET have it as PRODUCT.");
        due("3 3, 4 4, 5 5", told(TRIANGLE).ways(bits(3, 4, 5), 0), 3);
        due("4 3, 5 4, 3 5", told(TRIANGLE).ways(bits(3, 4, 5), 1), 3);
        due("none", told(TRIANGLE).ways(bits(3, 4, 5), 3), 0);
    }

    private static void waysOutOfBounds() {
        SAYS.promise(38, "NONE: out of bounds, no such ELEMENT.");
        SAYS.setOutOfBounds((x, set) -> x.ways(set, 0));
        SAYS.noSuchElement((x, e) -> x.ways(0, e));
        SAYS.noSuchElement((x, e) -> x.ways(1, e));
        due("both", told("cyclic 5;").ways(-1, 5), NONE);
    }

    private static void energies() {
        SAYS.promise(39, "ENERGY. NONE: out of bounds.");
        SAYS.setOutOfBounds((x, set) -> x.energy(set));
        SumFreeSets x = told("cyclic 16;");
        due("empty", x.energy(0), 0);
        due("0", x.energy(1), 1);
        due("the last one", x.energy(bits(15)), 1);
        due("all", x.energy(65535), 4096);
        due("odd ones: eight WAYS of eight", x.energy(0xAAAA), 8 * 64);
        due("n is 1", new SumFreeSets().energy(1), 1);
        due("n is 1, of none", new SumFreeSets().energy(0), 0);
        SAYS.term("ENERGY: WAYS times themselves, of all ELEMENTS together.");
        due("1 2 1", x.energy(bits(1, 2)), 6);
        due("2 2: both halves", x.energy(bits(0, 8)), 8);
        due("no ring", told(TRIANGLE).energy(bits(1, 3)), 4);
    }

    private static void noneAheadOfMissing() {
        SAYS.term("Where NONE and -2 could both be told, it is NONE.");
        SumFreeSets x = told("cyclic 5;");
        due("triple of a FREE SET, another what", x.triple(0, 3), NONE);
        due("triple of a FREE SET, another what", x.triple(bits(1, 4), -1), NONE);
        due("triple out of bounds, else FREE", x.triple(32, 0), NONE);
        due("covers out of bounds, else by none", x.covers(32), NONE);
    }
}
