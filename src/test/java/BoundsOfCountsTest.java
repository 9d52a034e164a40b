/** The boundaries of what is counted: promises 40 to 50, and the terms that say what CLASSES and COLOURS are. */
public final class BoundsOfCountsTest {
    private static final int NONE = Sentences.NONE;
    private static final int MIN = Sentences.MIN;
    private static final int MAX = Sentences.MAX;
    private static final String FOUR_TWOS = "cyclic 2;cyclic 2;cyclic 2;cyclic 2;";
    private static final Sentences SAYS = new Sentences();

    public static void main(String[] args) {
        many();
        manyOfOthers();
        greatest();
        nth();
        nthThatIsNotThere();
        nthOfOthers();
        within();
        nearest();
        nearestOfSeveral();
        nearestOfNone();
        best();
        bestOfSeveral();
        bestOfOthers();
        mean();
        meanOfNone();
        usual();
        usualOfNone();
        parts();
        partsWithZero();
        classes();
        colours();
        colourOfZero();
        noneAheadOfMissing();
        SAYS.end(40, 50);
    }

    private static void due(String call, long got, long want) {
        SAYS.due(call, got, want);
    }

    private static int bits(int... elements) {
        return Sentences.bits(elements);
    }

    private static SumFreeSets told(String text) {
        return Sentences.told(text);
    }

    /** How many SETS of each KIND there are, in all and of 0, 1, .. ELEMENTS. */
    private static void manyOf(String text, int kind, int... due) {
        SumFreeSets x = told(text);
        int sum = 0;
        for (int k = 0; k < due.length; k++) {
            due("\"" + text + "\" many(" + kind + ", " + k + ")", x.many(kind, k), due[k]);
            sum += due[k];
        }
        due("\"" + text + "\" many(" + kind + ", NONE)", x.many(kind, NONE), sum);
        for (int k : new int[] {due.length, due.length + 1, 16, 17, 31, 32, 33, 65536, MAX - 1, MAX}) {
            due("\"" + text + "\" many(" + kind + ", " + k + ")", x.many(kind, k), 0);
        }
    }

    private static void many() {
        SAYS.promise(40, "How many SETS of a KIND there are (k NONE), or of k ELEMENTS.");
        manyOf("", 0, 1);
        manyOf("", 1, 1);
        manyOf("", 2, 0);
        manyOf("cyclic 2;", 0, 1, 1);
        manyOf("cyclic 2;", 1, 0, 1);
        manyOf("cyclic 2;", 2, 0, 1);
        manyOf("cyclic 3;", 0, 1, 2);
        manyOf("cyclic 3;", 1, 0, 2);
        manyOf("cyclic 3;", 2, 0, 0);
        manyOf("cyclic 4;", 0, 1, 3, 1);
        manyOf("cyclic 4;", 1, 0, 1, 1);
        manyOf("cyclic 4;", 2, 0, 0, 1);
        manyOf("dihedral 2;", 0, 1, 3, 3);
        manyOf("dihedral 2;", 1, 0, 0, 3);
        manyOf("dihedral 2;", 2, 0, 0, 3);
        due("the greatest of 16", told(FOUR_TWOS).many(0, 8), 15);
        due("one more", told(FOUR_TWOS).many(0, 9), 0);
        due("of none", told(FOUR_TWOS).many(0, 0), 1);
        due("one of 16", told(FOUR_TWOS).many(0, 1), 15);
    }

    private static void manyOfOthers() {
        SAYS.promise(40, "NONE: another KIND, k below NONE.");
        SAYS.onlyFromTo(0, 2, (x, kind) -> x.many(kind, NONE));
        SAYS.onlyFromTo(0, 2, (x, kind) -> x.many(kind, 99));
        for (int kind = 0; kind < 3; kind++) {
            int one = kind;
            SAYS.onlyFrom(NONE, (x, k) -> x.many(one, k));
        }
        due("both", told("cyclic 5;").many(3, -2), NONE);
    }

    private static void greatest() {
        SAYS.promise(41, "How many ELEMENTS the greatest FREE SETS have.");
        due("n is 1", new SumFreeSets().greatest(), 0);
        int[] rings = {0, 1, 1, 2, 2, 3, 2, 4, 3, 5, 4, 6, 4, 7, 6, 8};
        for (int n = 2; n <= 16; n++) {
            due("a ring of " + n, told("cyclic " + n + ";").greatest(), rings[n - 1]);
        }
        due("quaternion", told("quaternion;").greatest(), 4);
        due("dihedral 7", told("dihedral 7;").greatest(), 7);
        due("of two", told("dihedral 1;").greatest(), 1);
    }

    private static void nth() {
        SAYS.promise(42, "The i-th (from 0, rising as numbers) SET of a KIND of k ELEMENTS;");
        SumFreeSets x = told("cyclic 16;");
        due("the empty one", x.nth(0, 0, 0), 0);
        for (int i = 0; i < 15; i++) {
            due("of one", x.nth(0, 1, i), 2 << i);
        }
        due("the greatest", x.nth(0, 8, 0), 0xAAAA);
        due("FULL", x.nth(1, 8, 0), 0xAAAA);
        due("COMPLETE", x.nth(2, 8, 0), 0xAAAA);
        int last = 0;
        int many = x.many(0, 2);
        for (int i = 0; i < many; i++) {
            int set = x.nth(0, 2, i);
            SAYS.due("rising", set > last, true);
            due("of two", Integer.bitCount(set), 2);
            last = set;
        }
        due("n is 1", new SumFreeSets().nth(0, 0, 0), 0);
        due("n is 1, FULL", new SumFreeSets().nth(1, 0, 0), 0);
    }

    private static void nthThatIsNotThere() {
        SAYS.promise(42, "-2: there are not so many.");
        SumFreeSets x = told("cyclic 16;");
        due("a second empty one", x.nth(0, 0, 1), -2);
        due("of one", x.nth(0, 1, 15), -2);
        due("of one", x.nth(0, 1, MAX), -2);
        due("of eight", x.nth(0, 8, 1), -2);
        for (int k : new int[] {9, 16, 17, 32, 65536, MAX}) {
            due("of " + k, x.nth(0, k, 0), -2);
        }
        due("FULL, empty", x.nth(1, 0, 0), -2);
        due("COMPLETE of 3", told("cyclic 3;").nth(2, 1, 0), -2);
        due("n is 1, COMPLETE", new SumFreeSets().nth(2, 0, 0), -2);
        due("n is 1, of one", new SumFreeSets().nth(0, 1, 0), -2);
    }

    private static void nthOfOthers() {
        SAYS.promise(42, "NONE: another KIND, k, i below 0.");
        SAYS.onlyFromTo(0, 2, (x, kind) -> x.nth(kind, 0, 0));
        SAYS.onlyFrom(0, (x, k) -> x.nth(0, k, 0));
        SAYS.onlyFrom(0, (x, i) -> x.nth(0, 0, i));
        due("k is NONE", told("cyclic 5;").nth(0, NONE, 0), NONE);
        due("i is NONE", told("cyclic 5;").nth(0, 0, NONE), NONE);
        due("all", told("cyclic 5;").nth(3, -1, -1), NONE);
    }

    private static void within() {
        SAYS.promise(43, "How many FREE SETS hold all of a SET (above true), lie within it (above false). "
            + "NONE: out of bounds.");
        SAYS.setOutOfBounds((x, set) -> x.within(set, true));
        SAYS.setOutOfBounds((x, set) -> x.within(set, false));
        SumFreeSets x = told("cyclic 4;");
        due("above the empty one", x.within(0, true), 5);
        due("within the empty one", x.within(0, false), 1);
        due("above all", x.within(15, true), 0);
        due("within all", x.within(15, false), 5);
        due("above 0", x.within(1, true), 0);
        due("within 0", x.within(1, false), 1);
        due("above a FULL one: itself", x.within(10, true), 1);
        due("within a FREE one: all its parts", x.within(10, false), 4);
        due("above what is not FREE", x.within(6, true), 0);
        due("within what is not FREE", x.within(6, false), 3);
        due("n is 1, above", new SumFreeSets().within(0, true), 1);
        due("n is 1, within", new SumFreeSets().within(1, false), 1);
        due("within the odd ones of 16", told("cyclic 16;").within(0xAAAA, false), 256);
        due("above the odd ones of 16", told("cyclic 16;").within(0xAAAA, true), 1);
    }

    private static void nearest() {
        SAYS.promise(44, "The SET of a KIND nearest to a SET: what 0 by how many ELEMENTS both are unlike, 1 the SET");
        SumFreeSets x = told("cyclic 16;");
        due("itself", x.nearest(0xAAAA, 2, 0), 0);
        due("itself", x.nearest(0xAAAA, 2, 1), 0xAAAA);
        due("empty", x.nearest(0, 0, 0), 0);
        due("empty", x.nearest(0, 0, 1), 0);
        due("without 0", x.nearest(1, 0, 0), 1);
        due("without 0", x.nearest(1, 0, 1), 0);
        due("all", x.nearest(65535, 0, 0), 8);
        due("all", x.nearest(65535, 0, 1), 0xAAAA);
        due("the last one more", x.nearest(0x2AAA, 1, 1), 0xAAAA);
        due("all are unlike", told("cyclic 2;").nearest(1, 1, 0), 2);
        due("all are unlike", told("cyclic 2;").nearest(1, 1, 1), 2);
        due("n is 1", new SumFreeSets().nearest(1, 1, 0), 1);
        due("n is 1", new SumFreeSets().nearest(1, 1, 1), 0);
    }

    private static void nearestOfSeveral() {
        SAYS.promise(44, "of several the least;");
        due("1 or 2 of both", told("cyclic 4;").nearest(6, 0, 1), 2);
        due("1 or 2 of both", told("cyclic 3;").nearest(6, 0, 1), 2);
        due("1 or 2 of none", told("cyclic 3;").nearest(0, 1, 1), 2);
        due("FULL ones of four", told("dihedral 2;").nearest(14, 1, 1), 6);
        due("2 3 or 1 4", told("cyclic 5;").nearest(31, 0, 1), 12);
        due("FULL ones of four, not FREE", told("dihedral 2;").nearest(1, 1, 1), 6);
    }

    private static void nearestOfNone() {
        SAYS.promise(44, "-2: there is none. NONE: out of bounds, another KIND, what.");
        for (int what = 0; what < 2; what++) {
            int one = what;
            SAYS.setOutOfBounds((x, set) -> x.nearest(set, 0, one));
            SAYS.setOutOfBounds((x, set) -> x.nearest(set, 2, one));
            SAYS.onlyFromTo(0, 2, (x, kind) -> x.nearest(0, kind, one));
            due("COMPLETE of 3", told("cyclic 3;").nearest(2, 2, what), -2);
            due("COMPLETE of 1", new SumFreeSets().nearest(0, 2, what), -2);
        }
        SAYS.onlyFromTo(0, 1, (x, what) -> x.nearest(0, 0, what));
        SAYS.onlyFromTo(0, 1, (x, what) -> x.nearest(0, 2, what));
    }

    private static void best() {
        SAYS.promise(45, "Of all FREE SETS that with the most WEIGHT: what 0 its WEIGHT, 1 the SET");
        SumFreeSets x = told("cyclic 16;");
        due("at first", x.best(0), 8);
        due("at first", x.best(1), 0xAAAA);
        for (int e = 1; e < 16; e += 2) {
            x.weigh(e, 9);
        }
        due("the most there can be", x.best(0), 72);
        due("the most there can be", x.best(1), 0xAAAA);
        x = told("cyclic 4;");
        x.weigh(0, 9);
        due("0 is in none", x.best(0), 2);
        x.weigh(2, 9);
        due("one above two", x.best(0), 9);
        due("one above two", x.best(1), 4);
        x.weigh(2, 3);
        due("still above", x.best(1), 4);
        x.undo();
        x.undo();
        due("as it was", x.best(1), 10);
        due("n is 1", new SumFreeSets().best(0), 0);
        due("n is 1", new SumFreeSets().best(1), 0);
    }

    private static void bestOfSeveral() {
        SAYS.promise(45, "of several the least.");
        SumFreeSets x = told("cyclic 4;");
        x.weigh(2, 2);
        due("1 3 or 2", x.best(1), 4);
        due("both have", x.best(0), 2);
        x.weigh(1, 0);
        x.weigh(2, 1);
        due("1 3 or 2 or 3", x.best(1), 4);
        x.weigh(2, 0);
        due("1 3 or 3", x.best(1), 8);
        x.weigh(3, 0);
        due("no WEIGHT at all", x.best(0), 0);
        due("the empty one", x.best(1), 0);
        due("1 4 or 2 3", told("cyclic 5;").best(1), 12);
    }

    private static void bestOfOthers() {
        SAYS.promise(45, "NONE: another what.");
        SAYS.onlyFromTo(0, 1, (x, what) -> x.best(what));
    }

    private static void mean() {
        SAYS.promise(46, "ELEMENTS of all SETS of a KIND together by how many such SETS there are, in lowest terms: "
            + "the upper part, or the lower one (lower).");
        meanOf("", 0, 0, 1);
        meanOf("", 1, 0, 1);
        meanOf("cyclic 2;", 0, 1, 2);
        meanOf("cyclic 2;", 1, 1, 1);
        meanOf("cyclic 2;", 2, 1, 1);
        meanOf("cyclic 3;", 0, 2, 3);
        meanOf("cyclic 3;", 1, 1, 1);
        meanOf("cyclic 4;", 0, 1, 1);
        meanOf("cyclic 4;", 1, 3, 2);
        meanOf("cyclic 4;", 2, 2, 1);
        meanOf("cyclic 5;", 0, 8, 7);
        meanOf("cyclic 5;", 2, 2, 1);
        meanOf("dihedral 2;", 0, 9, 7);
    }

    private static void meanOf(String text, int kind, int upper, int lower) {
        SumFreeSets x = told(text);
        due("\"" + text + "\" mean(" + kind + ", false)", x.mean(kind, false), upper);
        due("\"" + text + "\" mean(" + kind + ", true)", x.mean(kind, true), lower);
    }

    private static void meanOfNone() {
        SAYS.promise(46, "-2: there are none. NONE: another KIND.");
        for (boolean lower : new boolean[] {true, false}) {
            SAYS.onlyFromTo(0, 2, (x, kind) -> x.mean(kind, lower));
            due("COMPLETE of 1", new SumFreeSets().mean(2, lower), -2);
            due("COMPLETE of 3", told("cyclic 3;").mean(2, lower), -2);
            due("another one of 3", told("cyclic 3;").mean(3, lower), NONE);
        }
    }

    private static void usual() {
        SAYS.promise(47, "The number of ELEMENTS that most SETS of a KIND have, of several the least;");
        due("n is 1", new SumFreeSets().usual(0), 0);
        due("n is 1, FULL", new SumFreeSets().usual(1), 0);
        due("n is 2: none or one", told("cyclic 2;").usual(0), 0);
        due("n is 2, FULL", told("cyclic 2;").usual(1), 1);
        due("n is 4, FULL: one or two", told("cyclic 4;").usual(1), 1);
        due("n is 4: one", told("cyclic 4;").usual(0), 1);
        due("dihedral 2: one or two", told("dihedral 2;").usual(0), 1);
        due("dihedral 2, FULL", told("dihedral 2;").usual(1), 2);
        due("n is 5, COMPLETE", told("cyclic 5;").usual(2), 2);
        SumFreeSets x = told("cyclic 4;");
        for (int round = 0; round < 2; round++) {
            due("one behind the other, FREE", x.usual(0), 1);
            due("one behind the other, COMPLETE", x.usual(2), 2);
            x.copies(bits(3));
        }
    }

    private static void usualOfNone() {
        SAYS.promise(47, "-2: there are none. NONE: another KIND.");
        SAYS.onlyFromTo(0, 2, (x, kind) -> x.usual(kind));
        due("COMPLETE of 1", new SumFreeSets().usual(2), -2);
        due("COMPLETE of 3", told("cyclic 3;").usual(2), -2);
        due("another one of 3", told("cyclic 3;").usual(3), NONE);
    }

    private static void parts() {
        SAYS.promise(48, "The fewest FREE SETS into which a SET parts (0: it is empty);");
        SumFreeSets x = told("cyclic 16;");
        due("empty", x.parts(0), 0);
        due("one", x.parts(bits(15)), 1);
        due("odd ones", x.parts(0xAAAA), 1);
        due("one and itself", x.parts(bits(14, 15)), 2);
        due("all but 0", x.parts(65534), 4);
        due("empty again", x.parts(0), 0);
        due("n is 1", new SumFreeSets().parts(0), 0);
        due("n is 2", told("cyclic 2;").parts(2), 1);
        due("of four twos", told(FOUR_TWOS).parts(65534), 3);
        due("a line", told(FOUR_TWOS).parts(bits(1, 2, 3)), 2);
    }

    private static void partsWithZero() {
        SAYS.promise(48, "-2: 0 is in it. NONE: out of bounds.");
        SAYS.setOutOfBounds((x, set) -> x.parts(set));
        SumFreeSets x = told("cyclic 16;");
        due("0", x.parts(1), -2);
        due("0 and another one", x.parts(bits(0, 15)), -2);
        due("all", x.parts(65535), -2);
        due("n is 1", new SumFreeSets().parts(1), -2);
        due("out of bounds, with 0", x.parts(65537), NONE);
        due("below 0, with 0", x.parts(-1), NONE);
        due("below 0, without 0", x.parts(-2), NONE);
    }

    private static void classes() {
        SAYS.promise(49, "How many CLASSES (0: n is 1).");
        due("n is 1", new SumFreeSets().classes(), 0);
        int[] rings = {0, 1, 2, 2, 2, 3, 3, 3, 3, 3, 3, 3, 3, 3, 4, 4};
        for (int n = 2; n <= 16; n++) {
            SumFreeSets x = told("cyclic " + n + ";");
            due("a ring of " + n, x.classes(), rings[n - 1]);
            due("asked again", x.classes(), rings[n - 1]);
            due("as parts", x.parts((1 << n) - 2), rings[n - 1]);
        }
        due("four twos", told(FOUR_TWOS).classes(), 3);
        due("dihedral 1", told("dihedral 1;").classes(), 1);
    }

    private static void colours() {
        SAYS.promise(50, "COLOUR of an ELEMENT;");
        int[] five = {-2, 0, 1, 1, 0};
        SumFreeSets x = told("cyclic 5;");
        for (int e = 4; e >= 0; e--) {
            due("of five, " + e, x.colour(e), five[e]);
        }
        due("1 of 2", told("cyclic 2;").colour(1), 0);
        SAYS.term("ELEMENT 1 has 0, each next one the least by which it goes on to an end with the fewest CLASSES.");
        for (String text : new String[] {"cyclic 7;", "cyclic 13;", "cyclic 16;", "quaternion;", FOUR_TWOS}) {
            coloursOf(text);
        }
    }

    /** ELEMENT 1 has 0, no COLOUR is left out, each one's ELEMENTS are FREE, and parts() changes nothing. */
    private static void coloursOf(String text) {
        SumFreeSets x = told(text);
        int n = x.count(0);
        int classes = x.classes();
        int[] sets = new int[classes];
        int begun = 0;
        due(text + " 1", x.colour(1), 0);
        for (int e = 1; e < n; e++) {
            x.parts(bits(n - 1));
            int colour = x.colour(e);
            SAYS.due(text + " " + e + " is next at most", colour >= 0 && colour <= begun && colour < classes, true);
            sets[colour] |= 1 << e;
            begun = Math.max(begun, colour + 1);
        }
        due(text + " as many as CLASSES", begun, classes);
        for (int set : sets) {
            due(text + " FREE", x.is(set, 0), 1);
        }
    }

    private static void colourOfZero() {
        SAYS.promise(50, "-2: it is 0. NONE: no such ELEMENT.");
        SAYS.noSuchElement((x, e) -> x.colour(e));
        due("n is 1", new SumFreeSets().colour(0), -2);
        due("n is 16", told("cyclic 16;").colour(0), -2);
        due("n is 16, the last one", told("cyclic 16;").colour(15) >= 0 ? 1 : 0, 1);
        due("far below", told("cyclic 16;").colour(MIN), NONE);
    }

    private static void noneAheadOfMissing() {
        SAYS.term("Where NONE and -2 could both be told, it is NONE.");
        SumFreeSets x = told("cyclic 3;");
        due("nth, not so many, i below 0", x.nth(2, 1, -1), NONE);
        due("nth, not so many, k below 0", x.nth(0, -1, 99), NONE);
        due("nth, not so many, another KIND", x.nth(3, 9, 99), NONE);
        due("nearest, none, another what", x.nearest(0, 2, 2), NONE);
        due("nearest, none, out of bounds", x.nearest(8, 2, 0), NONE);
        due("nearest, none, below 0", x.nearest(-1, 2, 1), NONE);
        due("mean, another KIND", x.mean(-1, true), NONE);
        due("usual, another KIND", x.usual(-1), NONE);
        due("parts, 0 is in it, out of bounds", x.parts(9), NONE);
        due("parts, 0 is in it, below 0", x.parts(-7), NONE);
    }
}
