/** Each promise by itself: ordinary inputs, the edges that the document names, wrong inputs. */
public final class PromiseTest {
    private static final int NONE = SumFreeSets.NONE;
    private static final int MIN = Integer.MIN_VALUE;
    private static final int MAX = Integer.MAX_VALUE;
    private static final String FIVE = "cyclic 5;";
    private static final String TRIANGLE = "dihedral 3;";
    private static final String CUBE = "cyclic 2;cyclic 2;cyclic 2;";
    private static final Check CHECK = new Check();

    public static void main(String[] args) {
        told();
        changingTheSet();
        movingTheSet();
        weightsAndShelves();
        undoing();
        theGroup();
        subgroupsAndCosets();
        generatorsAndKin();
        powers();
        kindsAndTriples();
        productsOfSets();
        openAndPeriod();
        waysAndEnergy();
        counted();
        listed();
        nearestAndBest();
        meanAndUsual();
        classesAndColours();
        turned();
        characters();
        wholeNumbers();
        spelled();
        reported();
        counts();
        nothingElseChanges();
        CHECK.end();
    }

    private static void due(String call, long got, long want) {
        CHECK.due(call, got, want);
    }

    private static void due(String call, boolean got, boolean want) {
        CHECK.due(call, got, want);
    }

    private static void promise(int number) {
        CHECK.about("promise " + number);
    }

    private static int bits(int... elements) {
        return Check.bits(elements);
    }

    private static int answer(String text) {
        return Check.tell(new SumFreeSets(), text);
    }

    private static void told() {
        promise(1);
        SumFreeSets x = new SumFreeSets();
        due("n", x.count(0), 1);
        due("S", x.count(2), 0);
        due("spell", x.spell(NONE), 0);
        promise(2);
        due("feed", x.feed('c' << 24 | 'y' << 16 | 'c' << 8 | 'l', 'i' << 24 | 'c' << 16 | ' ' << 8 | '1',
            '2' << 24 | ';' << 16 | 's' << 8 | 'e', 't' << 24 | ' ' << 16 | '1' << 8 | '1', ' ' << 24 | '3' << 16
                | ' ' << 8 | ';'), 20);
        due("bytes", x.count(5), 20);
        due("text", x.text(), 12);
        due("S", x.count(2), bits(3, 11));
        for (int i = 1; i <= 10; i++) {
            due("feed " + i, x.feed(0x20202020, 0x0a0a0a0a, 0x20200a0a, 0x20202020, 0x20202020), 20 * i);
        }
        due("feed beyond 200", x.feed(-1, -1, -1, -1, -1), NONE);
        due("bytes", x.count(5), 200);
        due("back", x.back(1), 199);
        due("feed beyond 200, in part", x.feed(-1, -1, -1, -1, -1), NONE);
        due("bytes", x.count(5), 199);
        due("back", x.back(18), 181);
        due("one beyond 200", x.feed(-1, -1, -1, -1, -1), NONE);
        due("back", x.back(1), 180);
        due("200", x.feed(0x20202020, 0x20202020, 0x20202020, 0x20202020, 0x20202020), 200);
        due("nothing came", x.text(), 1);
        promise(3);
        due("feed", x.feed(-1, -1, -1, -1, -1), 20);
        due("back below 0", x.back(-1), NONE);
        due("back far below 0", x.back(MIN), NONE);
        due("back too many", x.back(21), NONE);
        due("back far too many", x.back(MAX), NONE);
        due("bytes", x.count(5), 20);
        due("back none", x.back(0), 20);
        due("back some", x.back(3), 17);
        due("back all", x.back(17), 0);
        due("back of none", x.back(1), NONE);
        faults();
        anew();
    }

    private static void faults() {
        promise(4);
        due("nothing", answer(""), 1);
        due("blanks", answer(" \n "), 1);
        due("order of numbers", answer("cyclic 2;dihedral 4;"), 16);
        due("quaternion twice", answer("quaternion;quaternion;"), -4 - 11);
        due("quaternion, unfinished", answer("cyclic 3; quaternion"), -4 - 10);
        due("17", answer("cyclic 17;"), -4 - 7);
        due("16", answer("cyclic 16;"), 16);
        due("dihedral 8", answer("dihedral 8;"), 16);
        due("dihedral 9", answer("dihedral 9;"), -4 - 9);
        due("dihedral 0", answer("dihedral 0;"), -4 - 9);
        due("dihedral 00", answer("dihedral 00;"), -4 - 9);
        due("0s ahead", answer("cyclic 02;cyclic 03;set 05;"), 6);
        due("three digits", answer("cyclic 002;"), -4 - 7);
        due("a word's end", answer("cyclics 2;"), -4);
        due("a word's beginning", answer("xyclic 2;"), -4);
        due("half a word", answer(" cycl"), -4 - 1);
        due("no blank", answer("cyclic2;"), -4 - 6);
        due("a line end", answer("cyclic\n2\n;"), 2);
        due("no end", answer("cyclic 2 "), -4 - 9);
        due("no number", answer("cyclic ;"), -4 - 7);
        due("a number alone", answer("2;"), -4);
        due("an end alone", answer(";"), -4);
        due("a number too many", answer("cyclic 2 2;"), -4 - 9);
        due("a number behind quaternion", answer("quaternion 2;"), -4 - 11);
        due("a great letter", answer("Cyclic 2;"), -4);
        due("a tab", answer("cyclic\t2;"), -4 - 6);
        due("a return", answer("cyclic 2;\r"), -4 - 9);
        due("n above 16", answer("cyclic 16;dihedral 1;"), -4 - 19);
        due("set, n", answer("cyclic 2;set 2;"), -4 - 13);
        due("set ahead of all", answer("set 0;"), 1);
        due("set unfinished", answer("cyclic 2;set 1"), -4 - 14);
        due("set at the end", answer("cyclic 2;set"), -4 - 12);
        due("set, twice", answer("cyclic 3;set 1 2 01;"), -4 - 17);
        due("set, no blank", answer("cyclic 3;set1;"), -4 - 12);
        due("set, a word", answer("cyclic 3;set 1 x;"), -4 - 15);
        due("set, 3 digits", answer("cyclic 3;set 000;"), -4 - 13);
        due("behind set", answer("set;set;"), -4 - 4);
        due("blanks behind set", answer("set; \n"), 1);
    }

    private static void anew() {
        SumFreeSets x = Check.told(FIVE + "set 1 4;");
        x.weigh(2, 7);
        x.keep(1);
        Check.feed(x, "cyclic 6");
        due("a fault", x.text(), -4 - 8);
        due("the tape is empty", x.count(5), 0);
        due("n stays", x.count(0), 5);
        due("S stays", x.count(2), 18);
        due("weights stay", x.count(11), 11);
        due("shelves stay", x.count(8), 18);
        due("acts stay", x.count(4), 2);
        Check.feed(x, "cyclic 6;");
        due("a text", x.text(), 6);
        due("the tape is empty", x.count(5), 0);
        due("S is empty", x.count(2), 0);
        due("weights are 1", x.count(11), 6);
        due("shelves are empty", x.count(8), 0);
        due("acts are forgotten", x.undo(), NONE);
    }

    private static void changingTheSet() {
        SumFreeSets x = Check.told(FIVE);
        promise(5);
        due("put in", x.put(4, true), true);
        due("put in again", x.put(4, true), false);
        due("take out what is not in", x.put(3, false), false);
        due("no such element", x.put(5, true), false);
        due("no such element", x.put(-1, true), false);
        due("no such element", x.put(32, true), false);
        due("no such element", x.put(36, false), false);
        due("S", x.count(2), 16);
        due("put out", x.put(4, false), true);
        due("acts", x.count(4), 2);
        promise(6);
        due("become", x.become(31), 0);
        due("become again", x.become(31), NONE);
        due("out of bounds", x.become(32), NONE);
        due("out of bounds", x.become(-1), NONE);
        due("out of bounds", x.become(MIN), NONE);
        due("S", x.count(2), 31);
        due("become", x.become(0), 31);
        due("acts", x.count(4), 4);
        promise(7);
        due("fill", x.fill(), 2);
        due("from 1 on", x.count(2), bits(1, 4));
        due("none comes", x.fill(), NONE);
        x.become(bits(3));
        due("fill", x.fill(), 1);
        due("behind 1", x.count(2), bits(2, 3));
        x.become(bits(1, 2));
        due("not free", x.fill(), NONE);
        due("nothing happens", x.count(2), bits(1, 2));
        thinning();
    }

    private static void thinning() {
        promise(8);
        SumFreeSets x = Check.told("cyclic 7;set 1 2 3 4;");
        // (1,1,2) (1,2,3) (2,1,3) (1,3,4) (3,1,4) (2,2,4) (4,4,1): 1 is in six, and 2 in the one that stays
        due("thin", x.thin(), 2);
        due("S", x.count(2), bits(3, 4));
        due("free", x.thin(), NONE);
        due("one act", x.count(4), 1);
        x.become(bits(1, 2, 4));
        // (1,1,2) (2,2,4) (4,4,1): each in two, the first goes, then 2 of (2,2,4)
        due("of several the first", x.thin(), 2);
        due("S", x.count(2), bits(4));
        x.become(bits(0, 1));
        // (0,0,0) (0,1,1) (1,0,1): 0 counts once in the first
        due("0", x.thin(), 1);
        due("S", x.count(2), bits(1));
        x.become(0);
        due("empty", x.thin(), NONE);
    }

    private static void movingTheSet() {
        SumFreeSets x = Check.told(TRIANGLE + "set 3;");
        promise(9);
        due("left", x.shift(1, true), bits(4));
        due("right", x.shift(1, false), bits(3));
        due("0 moves nothing", x.shift(0, true), NONE);
        due("no such element", x.shift(6, true), NONE);
        due("no such element", x.shift(-1, false), NONE);
        x.become(bits(0, 1, 2));
        due("it is so", x.shift(1, true), NONE);
        promise(10);
        due("it is so", x.invert(), NONE);
        x.become(bits(1, 3));
        due("inverses", x.invert(), bits(2, 3));
        promise(11);
        x.become(bits(3));
        // 1 3 2 is (1,0)(0,1)(2,0): (1,1)(2,0) is (1 less 2, 1), 5
        due("turned", x.turn(1), bits(5));
        due("it is so", x.turn(5), NONE);
        due("no such element", x.turn(6), NONE);
        due("no such element", x.turn(MIN), NONE);
        due("S", x.count(2), bits(5));
    }

    private static void weightsAndShelves() {
        SumFreeSets x = Check.told(FIVE);
        promise(12);
        due("weigh", x.weigh(4, 9), 1);
        due("weigh again", x.weigh(4, 9), NONE);
        due("too much", x.weigh(4, 10), NONE);
        due("below 0", x.weigh(4, -1), NONE);
        due("no such element", x.weigh(5, 2), NONE);
        due("no such element", x.weigh(-1, 2), NONE);
        due("weigh 0", x.weigh(4, 0), 9);
        due("all", x.count(11), 4);
        promise(13);
        due("it holds that", x.keep(0), NONE);
        x.become(3);
        due("keep", x.keep(2), 0);
        x.become(5);
        due("keep", x.keep(2), 3);
        due("it holds that", x.keep(2), NONE);
        due("no such one", x.keep(3), NONE);
        due("no such one", x.keep(-1), NONE);
        due("shelves", x.count(9), 5);
        promise(14);
        due("it is so", x.take(2), NONE);
        due("take", x.take(1), 0);
        due("take", x.take(2), 5);
        due("no such one", x.take(3), NONE);
        due("no such one", x.take(-1), NONE);
    }

    private static void undoing() {
        promise(15);
        SumFreeSets x = Check.told(TRIANGLE);
        due("none can", x.undo(), NONE);
        x.become(bits(1, 3));
        x.weigh(2, 5);
        x.keep(0);
        x.shift(1, true);
        x.invert();
        x.turn(1);
        x.put(0, true);
        x.thin();
        x.become(bits(4));
        x.fill();
        x.take(0);
        due("acts", x.count(4), 11);
        x.become(bits(1, 3));
        due("it is no act if it is so", x.count(4), 11);
        for (int left = 10; left >= 0; left--) {
            due("undo", x.undo(), left);
        }
        due("S", x.count(2), 0);
        due("weights", x.count(11), 6);
        due("shelf", x.count(7), 0);
        due("none can", x.undo(), NONE);
        for (int i = 1; i <= 30; i++) {
            x.become(i);
        }
        due("twelve can", x.count(4), 12);
        for (int left = 11; left >= 0; left--) {
            due("undo", x.undo(), left);
            due("S", x.count(2), 18 + left);
        }
        due("none can", x.undo(), NONE);
        due("S", x.count(2), 18);
        x.become(7);
        due("acts behind it", x.count(4), 1);
        due("undo", x.undo(), 0);
        due("S", x.count(2), 18);
    }

    private static void theGroup() {
        SumFreeSets x = Check.told("dihedral 2;cyclic 3;");
        promise(16);
        // 7 is (1,1) and 1, 10 is (0,1) and 2: together (1,0) and 0
        due("product", x.product(7, 10), 1);
        due("no such", x.product(12, 0), NONE);
        due("no such", x.product(0, -1), NONE);
        due("no such", x.product(MIN, MAX), NONE);
        x = Check.told("quaternion;cyclic 2;");
        due("k i", x.product(3, 1), 2);
        due("i k", x.product(1, 3), 6);
        due("opposites", x.product(5, 6), 3);
        due("both parts", x.product(9, 10), 3);
        promise(17);
        due("inverse of i", x.inverse(1), 5);
        due("inverse of the opposite of one", x.inverse(4), 4);
        due("inverse of i and 1", x.inverse(9), 13);
        due("no such", x.inverse(16), NONE);
        due("no such", x.inverse(-1), NONE);
        promise(18);
        due("order of 0", x.orderOf(0), 1);
        due("order of i", x.orderOf(1), 4);
        due("order of 8", x.orderOf(8), 2);
        due("no such", x.orderOf(16), NONE);
        due("no such", x.orderOf(-1), NONE);
        due("order in a ring", Check.told("cyclic 12;").orderOf(8), 3);
        promise(19);
        due("centre", x.centre(), bits(0, 4, 8, 12));
        due("centre of a square's", Check.told("dihedral 4;").centre(), bits(0, 2));
        due("centre of all", Check.told("dihedral 2;").centre(), 15);
    }

    private static void subgroupsAndCosets() {
        SumFreeSets x = Check.told("dihedral 4;");
        promise(20);
        due("span of nothing", x.span(0), 1);
        due("span of 2", x.span(bits(2)), bits(0, 2));
        due("span of two flips", x.span(bits(4, 6)), bits(0, 2, 4, 6));
        due("span of all", x.span(bits(4, 5)), 255);
        due("out of bounds", x.span(256), NONE);
        due("out of bounds", x.span(-1), NONE);
        promise(21);
        due("subgroups", x.subgroups(), 10);
        due("of a ring", Check.told("cyclic 12;").subgroups(), 6);
        due("of the quaternions", Check.told("quaternion;").subgroups(), 6);
        promise(22);
        due("left", x.coset(bits(0, 4), 1, true), bits(1, 5));
        due("right", x.coset(bits(0, 4), 1, false), bits(1, 7));
        due("no subgroup", x.coset(bits(0, 1), 1, false), -2);
        due("no subgroup", x.coset(0, 1, false), -2);
        due("no subgroup, no such element", x.coset(0, 8, false), NONE);
        due("no such element", x.coset(1, -1, true), NONE);
        due("out of bounds", x.coset(257, 0, true), NONE);
        promise(26);
        due("all", x.normal(255), 1);
        due("turns by halves", x.normal(bits(0, 2)), 1);
        due("a flip", x.normal(bits(0, 4)), 0);
        due("no subgroup", x.normal(bits(4)), -2);
        due("empty", x.normal(0), -2);
        due("out of bounds", x.normal(256), NONE);
        due("out of bounds", x.normal(MIN), NONE);
    }

    private static void generatorsAndKin() {
        SumFreeSets x = Check.told("cyclic 2;quaternion;");
        promise(23);
        due("the first", x.generator(0), 1);
        due("the second", x.generator(1), 2);
        due("the third", x.generator(2), 4);
        due("not so many", x.generator(3), -2);
        due("not so many", x.generator(MAX), -2);
        due("below 0", x.generator(-1), NONE);
        due("below 0", x.generator(MIN), NONE);
        x = Check.told("quaternion;");
        promise(24);
        due("i", x.alike(1), bits(1, 5));
        due("the opposite of one", x.alike(4), bits(4));
        due("no such", x.alike(8), NONE);
        due("no such", x.alike(-1), NONE);
        promise(25);
        due("quaternions", x.kin(), 5);
        due("a ring", Check.told(FIVE).kin(), 5);
        due("a triangle's", Check.told(TRIANGLE).kin(), 3);
    }

    private static void powers() {
        SumFreeSets x = Check.told("cyclic 8;");
        promise(27);
        due("one", x.power(bits(1, 3), 1), bits(1, 3));
        due("two", x.power(bits(1, 3), 2), bits(2, 4, 6));
        due("three", x.power(bits(1, 3), 3), bits(1, 3, 5, 7));
        due("99", x.power(bits(1), 99), bits(3));
        due("empty", x.power(0, 99), 0);
        due("k", x.power(1, 0), NONE);
        due("k", x.power(1, 100), NONE);
        due("k", x.power(1, -1), NONE);
        due("out of bounds", x.power(256, 1), NONE);
        due("out of bounds", x.power(-1, 1), NONE);
        due("order", Check.told(TRIANGLE).power(bits(1, 3), 2), bits(0, 2, 4, 5));
        promise(28);
        due("never", x.covers(bits(1, 3)), -2);
        due("all", x.covers(255), 1);
        due("0 and 1", x.covers(bits(0, 1)), 7);
        due("empty", x.covers(0), -2);
        due("out of bounds", x.covers(256), NONE);
        due("out of bounds", x.covers(-1), NONE);
        due("16", Check.told("cyclic 16;").covers(bits(3, 4)), 15);
    }

    private static void kindsAndTriples() {
        SumFreeSets x = Check.told("cyclic 8;");
        promise(29);
        due("free", x.is(bits(1, 3), 0), 1);
        due("not full", x.is(bits(1, 3), 1), 0);
        due("full", x.is(bits(1, 3, 5, 7), 1), 1);
        due("complete", x.is(bits(1, 3, 5, 7), 2), 1);
        due("a sum with itself", x.is(bits(1, 2), 0), 0);
        due("0", x.is(1, 0), 0);
        due("another kind", x.is(1, 3), NONE);
        due("another kind", x.is(1, -1), NONE);
        due("out of bounds", x.is(256, 0), NONE);
        due("out of bounds", x.is(-1, 0), NONE);
        // 1 1 is the only one at hand: 0 is no PRODUCT of two
        SumFreeSets four = Check.told("cyclic 3;");
        due("full", four.is(bits(1), 1), 1);
        due("not complete", four.is(bits(1), 2), 0);
        promise(30);
        due("none", x.triples(bits(1, 3)), 0);
        due("in order", x.triples(bits(1, 2, 3)), 3);
        due("all", x.triples(255), 64);
        due("out of bounds", x.triples(256), NONE);
        due("out of bounds", x.triples(-1), NONE);
        promise(31);
        due("x", x.triple(bits(2, 3, 5), 0), 2);
        due("y", x.triple(bits(2, 3, 5), 1), 3);
        due("their product", x.triple(bits(2, 3, 5), 2), 5);
        due("0 and 0 come first, x", x.triple(255, 0), 0);
        due("0 and 0 come first, y", x.triple(255, 1), 0);
        due("y is 0", x.triple(bits(0, 5), 2), 0);
        due("free", x.triple(bits(1), 1), -2);
        due("another what", x.triple(bits(1), 3), NONE);
        due("another what", x.triple(bits(1), -1), NONE);
        due("out of bounds", x.triple(256, 0), NONE);
    }

    private static void productsOfSets() {
        SumFreeSets x = Check.told(TRIANGLE);
        promise(32);
        due("in order", x.products(bits(1), bits(3, 4)), bits(4, 5));
        due("in order", x.products(bits(3, 4), bits(1)), bits(5, 3));
        due("empty", x.products(0, 63), 0);
        due("out of bounds", x.products(64, 0), NONE);
        due("out of bounds", x.products(0, 64), NONE);
        due("out of bounds", x.products(-1, -1), NONE);
        promise(33);
        // 1 by 2, 2 by 1, both by themselves
        due("quotients", x.quotients(bits(1, 3)), bits(0, 4));
        due("quotients of a ring", Check.told("cyclic 8;").quotients(bits(1, 4)), bits(0, 3, 5));
        due("empty", x.quotients(0), 0);
        due("out of bounds", x.quotients(64), NONE);
        due("out of bounds", x.quotients(-1), NONE);
        promise(34);
        due("flips", x.even(bits(3, 5)), 1);
        due("1 without 2", x.even(bits(1, 3)), 0);
        due("empty", x.even(0), 1);
        due("out of bounds", x.even(64), NONE);
        due("out of bounds", x.even(-1), NONE);
        promise(35);
        due("a subgroup's", x.copies(bits(0, 3)), 3);
        due("one's", x.copies(bits(3)), 6);
        due("all's", x.copies(63), 1);
        due("empty", x.copies(0), 1);
        // 0 and 7 ahead of the first, but behind the second one, leave it as it is, and nothing else does
        SumFreeSets seven = Check.told("dihedral 7;");
        due("g ahead", seven.copies(bits(0, 1, 3, 7, 11, 13)), 7);
        due("g not behind", seven.copies(bits(0, 4, 6, 7, 11, 13)), 14);
        due("out of bounds", x.copies(64), NONE);
        due("out of bounds", x.copies(-1), NONE);
    }

    private static void openAndPeriod() {
        SumFreeSets x = Check.told(TRIANGLE);
        promise(36);
        due("empty", x.open(0), bits(1, 2, 3, 4, 5));
        due("one flip", x.open(bits(3)), bits(1, 2, 4, 5));
        due("not free", x.open(bits(0)), 0);
        due("full", x.open(bits(3, 4, 5)), 0);
        due("out of bounds", x.open(64), NONE);
        due("out of bounds", x.open(-1), NONE);
        promise(37);
        due("left", x.period(bits(1, 4), true), bits(0, 5));
        due("right", x.period(bits(1, 4), false), bits(0, 3));
        due("empty", x.period(0, true), 63);
        due("out of bounds", x.period(64, true), NONE);
        due("out of bounds", x.period(-1, false), NONE);
    }

    private static void waysAndEnergy() {
        SumFreeSets x = Check.told("cyclic 6;");
        promise(38);
        due("with itself", x.ways(bits(1, 2), 2), 1);
        due("both ways", x.ways(bits(1, 2), 3), 2);
        due("none", x.ways(bits(1, 2), 0), 0);
        due("no such element", x.ways(bits(1, 2), 6), NONE);
        due("no such element", x.ways(bits(1, 2), -1), NONE);
        due("out of bounds", x.ways(64, 0), NONE);
        promise(39);
        due("energy", x.energy(bits(1, 2)), 1 + 4 + 1);
        due("all", x.energy(63), 6 * 36);
        due("empty", x.energy(0), 0);
        due("out of bounds", x.energy(64), NONE);
        due("out of bounds", x.energy(-1), NONE);
    }

    private static void counted() {
        SumFreeSets x = Check.told("cyclic 4;");
        promise(40);
        // empty, 1, 2, 3, 13
        due("free", x.many(0, NONE), 5);
        due("full", x.many(1, NONE), 2);
        due("complete", x.many(2, NONE), 1);
        due("of one", x.many(0, 1), 3);
        due("of none", x.many(0, 0), 1);
        due("of more than all", x.many(0, MAX), 0);
        due("another kind", x.many(3, 1), NONE);
        due("another kind", x.many(-1, 1), NONE);
        due("k below", x.many(0, -2), NONE);
        due("k below", x.many(0, MIN), NONE);
        promise(41);
        due("greatest", x.greatest(), 2);
        due("half", Check.told("dihedral 8;").greatest(), 8);
        due("of 7", Check.told("cyclic 7;").greatest(), 2);
        due("of 1", new SumFreeSets().greatest(), 0);
        promise(43);
        due("above", x.within(bits(1), true), 2);
        due("within", x.within(bits(1, 2), false), 3);
        due("within all", x.within(15, false), 5);
        due("not free", x.within(1, true), 0);
        due("out of bounds", x.within(16, true), NONE);
        due("out of bounds", x.within(-1, false), NONE);
    }

    private static void listed() {
        SumFreeSets x = Check.told("cyclic 4;");
        promise(42);
        due("first", x.nth(0, 1, 0), 2);
        due("second", x.nth(0, 1, 1), 4);
        due("third", x.nth(0, 1, 2), 8);
        due("not so many", x.nth(0, 1, 3), -2);
        due("not so many", x.nth(0, 1, MAX), -2);
        due("the empty one", x.nth(0, 0, 0), 0);
        due("full ones", x.nth(1, 1, 0), 4);
        due("complete ones", x.nth(2, 2, 0), 10);
        due("no complete one", x.nth(2, 1, 0), -2);
        due("k above", x.nth(0, 17, 0), -2);
        due("another kind", x.nth(3, 1, 0), NONE);
        due("another kind", x.nth(-1, 1, 0), NONE);
        due("k below 0", x.nth(0, -1, 0), NONE);
        due("i below 0", x.nth(0, 1, -1), NONE);
    }

    private static void nearestAndBest() {
        SumFreeSets x = Check.told("cyclic 4;");
        promise(44);
        due("apart", x.nearest(15, 0, 0), 2);
        due("which", x.nearest(15, 0, 1), 10);
        due("of several the least", x.nearest(bits(1, 2), 0, 1), 2);
        due("full", x.nearest(bits(0, 2), 1, 1), 4);
        due("complete", x.nearest(bits(0, 2), 2, 0), 4);
        due("itself", x.nearest(10, 2, 0), 0);
        due("the empty one", x.nearest(1, 0, 1), 0);
        due("all are unlike", Check.told("cyclic 16;").nearest(0x5555, 2, 0) > 0, true);
        due("none", Check.told("cyclic 3;").nearest(0, 2, 0), -2);
        due("none", Check.told("cyclic 3;").nearest(0, 2, 1), -2);
        due("another what", Check.told("cyclic 3;").nearest(0, 2, 2), NONE);
        due("another what", x.nearest(0, 0, -1), NONE);
        due("another kind", x.nearest(0, 3, 0), NONE);
        due("out of bounds", x.nearest(16, 0, 0), NONE);
        due("out of bounds", x.nearest(-1, 0, 0), NONE);
        promise(45);
        due("weight", x.best(0), 2);
        due("which", x.best(1), 10);
        x.weigh(2, 2);
        due("of several the least", x.best(1), 4);
        x.weigh(2, 9);
        due("weight", x.best(0), 9);
        due("which", x.best(1), 4);
        x.weigh(0, 9);
        due("0 is in none", x.best(0), 9);
        x.weigh(1, 0);
        x.weigh(2, 0);
        x.weigh(3, 0);
        due("none", x.best(0), 0);
        due("the least", x.best(1), 0);
        due("another what", x.best(2), NONE);
        due("another what", x.best(-1), NONE);
    }

    private static void meanAndUsual() {
        SumFreeSets x = Check.told("cyclic 4;");
        promise(46);
        due("5 by 5, upper", x.mean(0, false), 1);
        due("5 by 5, lower", x.mean(0, true), 1);
        due("3 by 2, upper", x.mean(1, false), 3);
        due("3 by 2, lower", x.mean(1, true), 2);
        due("none", Check.told("cyclic 3;").mean(2, true), -2);
        due("another kind", x.mean(3, true), NONE);
        due("another kind", x.mean(-1, false), NONE);
        due("0 by 1", new SumFreeSets().mean(1, true), 1);
        promise(47);
        due("usual", x.usual(0), 1);
        due("of several the least", x.usual(1), 1);
        due("complete", x.usual(2), 2);
        due("n is 1", new SumFreeSets().usual(0), 0);
        due("none", Check.told("cyclic 3;").usual(2), -2);
        due("another kind", x.usual(3), NONE);
        due("another kind", x.usual(-1), NONE);
    }

    private static void classesAndColours() {
        SumFreeSets x = Check.told("cyclic 8;");
        promise(48);
        due("empty", x.parts(0), 0);
        due("free", x.parts(bits(1, 3)), 1);
        due("two", x.parts(bits(1, 2)), 2);
        due("two, with gaps", x.parts(bits(2, 4)), 2);
        due("three", x.parts(bits(1, 2, 3, 4, 5)), 3);
        due("0", x.parts(bits(0, 1)), -2);
        due("out of bounds", x.parts(256), NONE);
        due("out of bounds", x.parts(257), NONE);
        due("out of bounds", x.parts(-1), NONE);
        promise(49);
        due("of 1", new SumFreeSets().classes(), 0);
        due("of 2", Check.told("cyclic 2;").classes(), 1);
        due("of 5", Check.told(FIVE).classes(), 2);
        due("of 16, three", Check.told(CUBE + "cyclic 2;").classes(), 3);
        due("of 16, four", Check.told("cyclic 16;").classes(), 4);
        promise(50);
        // 1 and 4 go together; were 3 with 1, then 4 would have no place beside 2
        x = Check.told(FIVE);
        due("1", x.colour(1), 0);
        due("2", x.colour(2), 1);
        x.parts(bits(3));
        due("3", x.colour(3), 1);
        due("4", x.colour(4), 0);
        due("0", x.colour(0), -2);
        SumFreeSets six = Check.told(TRIANGLE);
        int[] colours = {-2, 0, 1, 0, 1, 2};
        for (int e = 0; e < 6; e++) {
            due("of a triangle's " + e, six.colour(e), colours[e]);
        }
        due("no such", x.colour(5), NONE);
        due("no such", x.colour(-1), NONE);
    }

    private static void turned() {
        SumFreeSets x = Check.told(CUBE);
        promise(51);
        due("of a cube", x.turns(), 168);
        due("of a square's", Check.told("dihedral 4;").turns(), 8);
        due("of 1", new SumFreeSets().turns(), 1);
        due("of a ring", Check.told("cyclic 15;").turns(), 8);
        promise(52);
        due("image", x.image(bits(7)), bits(1));
        due("image of a line", x.image(bits(3, 5, 6)), bits(1, 2, 3));
        due("image of a base", x.image(bits(3, 5, 7)), bits(1, 2, 4));
        due("0 stays", x.image(bits(0, 7)), bits(0, 1));
        due("out of bounds", x.image(256), NONE);
        due("out of bounds", x.image(-1), NONE);
        promise(53);
        due("lines", x.orbit(bits(3, 5, 6)), 7);
        due("bases", x.orbit(bits(3, 5, 7)), 28);
        due("all", x.orbit(255), 1);
        due("out of bounds", x.orbit(256), NONE);
        due("out of bounds", x.orbit(-1), NONE);
        // two lines that meet, and a point outside: 8 of 20160 turns keep them
        due("the greatest", Check.told(CUBE + "cyclic 2;").orbit(bits(1, 2, 3, 4, 5, 8)), 20160 / 8);
        promise(54);
        due("none", x.orbits(0, 0), 1);
        due("one", x.orbits(0, 1), 1);
        due("three", x.orbits(0, 3), 1);
        due("four", x.orbits(0, 4), 1);
        due("five", x.orbits(0, 5), 0);
        due("in a ring", Check.told("cyclic 6;").orbits(0, 1), 3);
        // those of 1, 6 and of 2, 6
        due("full in a ring", Check.told("cyclic 8;").orbits(1, 2), 2);
        due("another kind", x.orbits(3, 1), NONE);
        due("another kind", x.orbits(-1, 1), NONE);
        due("k below 0", x.orbits(0, -1), NONE);
    }

    private static void characters() {
        SumFreeSets x = Check.told("cyclic 4;cyclic 2;");
        promise(55);
        due("into 2", x.characters(2), 4);
        due("into 4", x.characters(4), 8);
        due("into 3", x.characters(3), 1);
        due("into 1", x.characters(1), 1);
        due("into 0", x.characters(0), NONE);
        due("into 17", x.characters(17), NONE);
        due("of the triangle's", Check.told(TRIANGLE).characters(6), 2);
        promise(56);
        // by 1, then by 4: (0,0) (0,2) (1,0) (1,2) (2,0) ..
        due("(0,0) of 7", x.character(4, 0, 7), 0);
        due("(0,2) of 4", x.character(4, 1, 4), 2);
        due("(0,2) of 3", x.character(4, 1, 3), 0);
        due("(1,2) of 7", x.character(4, 3, 7), 3 + 2 - 4);
        due("(2,0) of 1", x.character(4, 4, 1), 2);
        due("not so many", x.character(4, 8, 0), -2);
        due("not so many, no such element", x.character(4, 8, 8), NONE);
        due("no such element", x.character(4, 0, -1), NONE);
        due("k below 0", x.character(4, -1, 0), NONE);
        due("m", x.character(17, 0, 0), NONE);
        due("m", x.character(0, 0, 0), NONE);
        promise(57);
        due("lift", x.lift(4, 2, bits(1)), bits(1, 5));
        due("lift of all", x.lift(4, 2, 15), 255);
        due("lift of 0", x.lift(4, 0, 1), 255);
        due("not so many", x.lift(4, 8, 1), -2);
        due("numbers", x.lift(4, 8, 16), NONE);
        due("numbers", x.lift(4, 0, -1), NONE);
        due("numbers of 16", x.lift(16, 0, 65535), 255);
        due("numbers of 16", x.lift(16, 0, 65536), NONE);
        due("k below 0", x.lift(4, -1, 1), NONE);
        due("m", x.lift(0, 0, 0), NONE);
        due("m", x.lift(17, 0, 0), NONE);
        promise(58);
        due("of 1", x.middle(1), 0);
        due("of 6", x.middle(6), bits(3, 4));
        due("of 16", x.middle(16), bits(6, 7, 8, 9, 10));
        due("of 0", x.middle(0), NONE);
        due("of 17", x.middle(17), NONE);
        promise(59);
        due("of 2", x.lifted(2), 4);
        due("of 4", x.lifted(4), 4);
        due("of 3", x.lifted(3), 0);
        due("of 8", Check.told("cyclic 8;").lifted(8), 4);
        due("of 0", x.lifted(0), NONE);
        due("of 17", x.lifted(17), NONE);
    }

    private static void wholeNumbers() {
        SumFreeSets x = new SumFreeSets();
        promise(60);
        int[] known = {1, 2, 3, 6, 9, 16, 24, 42, 61, 108, 151, 253, 369, 607, 847, 1400, 1954};
        for (int n = 0; n <= 16; n++) {
            due("1 .. " + n, x.ints(n, NONE), known[n]);
            for (int k = 0; k <= n + 1; k++) {
                due("1 .. " + n + ", " + k, x.ints(n, k), Plain.ints(n, k));
            }
        }
        due("n", x.ints(-1, 0), NONE);
        due("n", x.ints(17, NONE), NONE);
        due("k", x.ints(5, -2), NONE);
        due("k", x.ints(5, MAX), 0);
    }

    private static void spelled() {
        promise(61);
        SumFreeSets x = Check.told(" cyclic 02 ;dihedral  1;\nset\n 03 0 2 ;");
        CHECK.due("spell", Check.spelled(x), "cyclic 2;dihedral 1;set 0 2 3;");
        due("length", x.spell(NONE), 30);
        due("first", x.spell(0), 'c');
        due("last", x.spell(29), ';');
        due("behind", x.spell(30), -2);
        due("far behind", x.spell(MAX), -2);
        due("below", x.spell(-2), NONE);
        due("below", x.spell(MIN), NONE);
        x.become(0);
        CHECK.due("spell", Check.spelled(x), "cyclic 2;dihedral 1;");
        x = Check.told("quaternion;dihedral 1;set 10 9 15;");
        CHECK.due("spell", Check.spelled(x), "quaternion;dihedral 1;set 9 10 15;");
        CHECK.due("again", Check.spelled(Check.told(Check.spelled(x))), Check.spelled(x));
        x = Check.told("dihedral 1;dihedral 1;dihedral 1;dihedral 1;");
        x.become(65535);
        due("the longest", x.spell(NONE), 44 + 3 + 10 * 2 + 6 * 3 + 1);
    }

    private static void reported() {
        promise(62);
        SumFreeSets x = Check.told("cyclic 16;");
        CHECK.due("empty", Check.reported(x), "size 0;free;open 15;");
        x.become(65535);
        CHECK.due("all", Check.reported(x), "size 16;triples 256;");
        x.become(0xAAAA);
        CHECK.due("complete", Check.reported(x), "size 8;free;full;complete;");
        due("length", x.report(NONE), 26);
        due("behind", x.report(26), -2);
        due("last", x.report(25), ';');
        due("below", x.report(-2), NONE);
        due("below", x.report(MIN), NONE);
        x = Check.told("cyclic 10;set 0 1 2 3 4 5 6 7 8 9;");
        CHECK.due("three digits", Check.reported(x), "size 10;triples 100;");
        x = Check.told("cyclic 3;set 1;");
        CHECK.due("not complete", Check.reported(x), "size 1;free;full;");
        CHECK.due("n is 1", Check.reported(new SumFreeSets()), "size 0;free;full;");
    }

    private static void counts() {
        promise(63);
        SumFreeSets x = Check.told("dihedral 4;cyclic 2;set 1 9;");
        x.keep(0);
        x.put(0, true);
        x.keep(1);
        x.weigh(3, 4);
        Check.feed(x, "abc");
        int[] due = {16, 2, bits(0, 1, 9), 3, 4, 3, 0, bits(1, 9), bits(0, 1, 9), 0, 3, 19};
        for (int what = 0; what < due.length; what++) {
            due("count(" + what + ")", x.count(what), due[what]);
        }
        due("others", x.count(12), NONE);
        due("others", x.count(-1), NONE);
        due("others", x.count(MIN), NONE);
        due("others", x.count(MAX), NONE);
        x.keep(2);
        due("count(9)", x.count(9), bits(0, 1, 9));
        due("a ring", Check.told(FIVE).count(6), 1);
    }

    /** What only asks leaves all as it is, and so does an act that does not happen. */
    private static void nothingElseChanges() {
        CHECK.about("III");
        SumFreeSets x = Check.told("dihedral 5;set 1 5 7;");
        x.weigh(7, 3);
        x.keep(1);
        Check.feed(x, "cyc");
        String before = Check.state(x);
        askAll(x, 1, 0, 2);
        askAll(x, 700, 11, 5);
        askAll(x, -1, -1, -3);
        x.become(2000);
        x.shift(10, true);
        x.turn(-1);
        x.weigh(0, 1);
        x.keep(1);
        x.take(1);
        x.thin();
        x.back(4);
        CHECK.due("state", Check.state(x), before);
    }

    private static void askAll(SumFreeSets x, int set, int e, int k) {
        x.product(e, k);
        x.span(set);
        x.subgroups();
        x.coset(set, e, true);
        x.covers(set);
        x.power(set, k);
        x.copies(set);
        x.open(set);
        x.many(k, e);
        x.nth(0, k, e);
        x.nearest(set, 1, 1);
        x.usual(0);
        x.parts(set);
        x.classes();
        x.colour(e);
        x.turns();
        x.image(set);
        x.orbit(set);
        x.orbits(0, k);
        x.characters(k);
        x.character(k, e, e);
        x.lift(k, e, 1);
        x.lifted(k);
        x.ints(k, e);
        x.report(k);
        x.spell(k);
    }
}
