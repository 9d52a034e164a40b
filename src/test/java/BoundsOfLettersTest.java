/** The boundaries of whole numbers, of what is spelled, reported and counted: promises 60 to 63. */
public final class BoundsOfLettersTest {
    private static final int NONE = Sentences.NONE;
    private static final int MIN = Sentences.MIN;
    private static final int MAX = Sentences.MAX;
    private static final Sentences SAYS = new Sentences();

    public static void main(String[] args) {
        ints();
        intsOfOneAndItself();
        intsOutOfBounds();
        spells();
        spellsSets();
        spellsAtItsEnd();
        reports();
        reportsWhatIsNotFree();
        reportsAtItsEnd();
        counts();
        countsSets();
        countsOthers();
        noneAheadOfMissing();
        SAYS.end(60, 63);
    }

    private static void due(String call, long got, long want) {
        SAYS.due(call, got, want);
    }

    private static int bits(int... elements) {
        return Sentences.bits(elements);
    }

    private static SumFreeSets told(String text) {
        return Sentences.told(text);
    }

    private static void ints() {
        SAYS.promise(60, "How many SETS of k (NONE: any many) of the whole numbers 1 .. n (0 .. 16)");
        int[] any = {1, 2, 3, 6, 9, 16, 24, 42, 61, 108, 151, 253, 369, 607, 847, 1400, 1954};
        for (int n = 0; n <= 16; n++) {
            SumFreeSets x = new SumFreeSets();
            due("any of 1 .. " + n, x.ints(n, NONE), any[n]);
            due("none of 1 .. " + n, x.ints(n, 0), 1);
            due("one of 1 .. " + n, x.ints(n, 1), n);
            int most = (n + 1) / 2;
            SAYS.due("the upper half of 1 .. " + n, x.ints(n, most) > 0, true);
            for (int k : new int[] {most + 1, most + 2, n + 1, 17, 32, 65536, MAX - 1, MAX}) {
                due(k + " of 1 .. " + n, x.ints(n, k), 0);
            }
            int sum = 0;
            for (int k = 0; k <= n; k++) {
                sum += x.ints(n, k);
            }
            due("all k of 1 .. " + n, sum, any[n]);
        }
        due("whatever the GROUP", told("cyclic 3;set 1;").ints(16, NONE), 1954);
    }

    private static void intsOfOneAndItself() {
        SAYS.promise(60, "there are in which no sum of two (of one and itself, too) lies.");
        SumFreeSets x = new SumFreeSets();
        due("not 1 2", x.ints(2, 2), 0);
        due("1 3, 2 3", x.ints(3, 2), 2);
        // 1 3, 1 4, 2 3, 3 4: 2 4 is 2 and 2
        due("a sum above n does not come round", x.ints(4, 2), 4);
        due("1 3 5, 3 4 5 of 1 .. 5", x.ints(5, 3), 2);
        due("the upper half and the odd ones of 16", x.ints(16, 8), 3);
    }

    private static void intsOutOfBounds() {
        SAYS.promise(60, "NONE: n out of bounds, k below NONE.");
        SAYS.onlyFromTo(0, 16, (x, n) -> x.ints(n, NONE));
        SAYS.onlyFromTo(0, 16, (x, n) -> x.ints(n, 0));
        SAYS.onlyFromTo(0, 16, (x, n) -> x.ints(n, 99));
        SAYS.onlyFrom(NONE, (x, k) -> x.ints(0, k));
        SAYS.onlyFrom(NONE, (x, k) -> x.ints(5, k));
        due("both", new SumFreeSets().ints(17, -2), NONE);
    }

    private static void spells() {
        SAYS.promise(61, "FACTORS, then set (if S is not empty) as a TEXT, in order, one blank between WORDS and N, "
            + "none else, no line ends");
        SAYS.due("n is 1", Check.spelled(new SumFreeSets()), "");
        SAYS.due("n is 1, 0", Check.spelled(told("set 0;")), "set 0;");
        spelled(" cyclic \n 02 ;\n dihedral 01 ; ", "cyclic 2;dihedral 1;");
        spelled("quaternion ; dihedral 1;", "quaternion;dihedral 1;");
        spelled("cyclic 10;", "cyclic 10;");
        spelled("cyclic 16;", "cyclic 16;");
        spelled("dihedral 8;", "dihedral 8;");
        spelled("dihedral 1;quaternion;set;", "dihedral 1;quaternion;");
        spelled("cyclic 2;dihedral 1;dihedral 2;", "cyclic 2;dihedral 1;dihedral 2;");
        spelled("dihedral 1;cyclic 2;cyclic 2;dihedral 1;", "dihedral 1;cyclic 2;cyclic 2;dihedral 1;");
    }

    private static void spelled(String text, String want) {
        SumFreeSets x = told(text);
        SAYS.due("\"" + text + "\"", Check.spelled(x), want);
        due("\"" + text + "\" its length", x.spell(NONE), want.length());
        due("\"" + text + "\" behind it", x.spell(want.length()), -2);
        SAYS.due("\"" + text + "\" told again", Check.spelled(told(want)), want);
    }

    private static void spellsSets() {
        SAYS.promise(61, "then set (if S is not empty)");
        spelled("cyclic 16;set 15 09 10 00;", "cyclic 16;set 0 9 10 15;");
        spelled("cyclic 10;set 09;", "cyclic 10;set 9;");
        spelled("dihedral 1;dihedral 1;dihedral 1;dihedral 1;set 15 14 13 12 11 10 9 8 7 6 5 4 3 2 1 0;",
            "dihedral 1;dihedral 1;dihedral 1;dihedral 1;set 0 1 2 3 4 5 6 7 8 9 10 11 12 13 14 15;");
        SumFreeSets x = told("cyclic 5;set 1;");
        x.put(1, false);
        SAYS.due("the last one gone", Check.spelled(x), "cyclic 5;");
        x.put(0, true);
        SAYS.due("0 come", Check.spelled(x), "cyclic 5;set 0;");
    }

    private static void spellsAtItsEnd() {
        SAYS.promise(61, "i NONE how many bytes, 0 on: the i-th; -2: there are not so many. NONE: i below NONE.");
        SAYS.onlyFrom(NONE, (x, i) -> x.spell(i));
        SumFreeSets x = new SumFreeSets();
        due("n is 1, how many", x.spell(NONE), 0);
        due("n is 1, the first", x.spell(0), -2);
        x = told("cyclic 5;set 1;");
        due("how many", x.spell(NONE), 15);
        due("the first", x.spell(0), 'c');
        due("a blank", x.spell(6), ' ');
        due("the last", x.spell(14), ';');
        for (int i : new int[] {15, 16, 127, 128, 200, 256, 65536, MAX}) {
            due("spell(" + i + ")", x.spell(i), -2);
        }
        for (int i : new int[] {-2, -3, -128, MIN, MIN + 1}) {
            due("spell(" + i + ")", x.spell(i), NONE);
        }
    }

    private static void reports() {
        SAYS.promise(62, "else free; and full; or (not FULL) open N; (how many ELEMENTS of open()), and "
            + "complete; if it is;");
        reported("", "size 0;free;full;");
        reported("cyclic 2;", "size 0;free;open 1;");
        reported("cyclic 2;set 1;", "size 1;free;full;complete;");
        reported("cyclic 3;set 2;", "size 1;free;full;");
        reported("cyclic 4;set 2;", "size 1;free;full;");
        reported("cyclic 4;set 1;", "size 1;free;open 1;");
        reported("cyclic 16;", "size 0;free;open 15;");
        reported("cyclic 11;", "size 0;free;open 10;");
        reported("cyclic 10;", "size 0;free;open 9;");
        reported("cyclic 16;set 1 3 5 7 9 11 13 15;", "size 8;free;full;complete;");
        reported("cyclic 16;set 1 3 5 7 9 11 13;", "size 7;free;open 1;");
    }

    private static void reported(String text, String want) {
        SumFreeSets x = told(text);
        SAYS.due("\"" + text + "\"", Check.reported(x), want);
        due("\"" + text + "\" its length", x.report(NONE), want.length());
        due("\"" + text + "\" behind it", x.report(want.length()), -2);
    }

    private static void reportsWhatIsNotFree() {
        SAYS.promise(62, "What S is as a TEXT: size N; (its ELEMENTS), then, if it is not FREE, triples N;");
        reported("set 0;", "size 1;triples 1;");
        reported("cyclic 5;set 1 2;", "size 2;triples 1;");
        reported("cyclic 3;set 0 1 2;", "size 3;triples 9;");
        reported("cyclic 4;set 0 1 2 3;", "size 4;triples 16;");
        reported("cyclic 10;set 0 1 2 3 4 5 6 7 8 9;", "size 10;triples 100;");
        reported("cyclic 16;set 0 1 2 3 4 5 6 7 8 9 10 11 12 13 14 15;", "size 16;triples 256;");
        reported("cyclic 9;set 0 1 2 3 4 5 6 7 8;", "size 9;triples 81;");
        reported("cyclic 11;set 0 1 2 3 4 5 6 7 8 9 10;", "size 11;triples 121;");
        reported("cyclic 15;set 1 2 3 4 5 6 7 8 9 10 11 12 13 14;", "size 14;triples 182;");
    }

    private static void reportsAtItsEnd() {
        SAYS.promise(62, "i NONE how many bytes, 0 on: the i-th; -2: there are not so many. NONE: i below NONE.");
        SAYS.onlyFrom(NONE, (x, i) -> x.report(i));
        SumFreeSets x = told("cyclic 5;set 1 4;");
        due("how many", x.report(NONE), 26);
        due("the first", x.report(0), 's');
        due("a blank", x.report(4), ' ');
        due("the last", x.report(25), ';');
        for (int i : new int[] {26, 27, 127, 128, 256, 65536, MAX}) {
            due("report(" + i + ")", x.report(i), -2);
        }
        for (int i : new int[] {-2, -3, -128, MIN, MIN + 1}) {
            due("report(" + i + ")", x.report(i), NONE);
        }
        x.spell(NONE);
        due("behind spell()", x.report(NONE), 26);
        due("spell() behind it", x.spell(NONE), 17);
    }

    private static void counts() {
        SAYS.promise(63, "0 n, 1 FACTORS, 2 S, 3 ELEMENTS of S, 4 ACTS that can be undone, 5 bytes of the tape");
        SumFreeSets x = told("cyclic 2;dihedral 1;cyclic 2;dihedral 1;set 0 15;");
        countsAre(x, 16, 4, bits(0, 15), 2, 0, 0, 1, 0, 0, 0, 4, 16);
        x.become(65535);
        x.keep(0);
        Check.feed(x, " ".repeat(200));
        countsAre(x, 16, 4, 65535, 16, 2, 200, 1, 65535, 0, 0, 4, 16);
        for (int i = 0; i < 13; i++) {
            x.become(i);
        }
        due("at most 12 ACTS", x.count(4), 12);
        countsAre(new SumFreeSets(), 1, 0, 0, 0, 0, 0, 1, 0, 0, 0, 0, 1);
        SAYS.promise(63, "6: 1 all PRODUCTS are the same both ways round, else 0");
        String[] same = {"", "cyclic 16;", "dihedral 1;", "dihedral 2;", "dihedral 2;dihedral 2;",
            "cyclic 3;dihedral 2;"};
        for (String text : same) {
            due(text, told(text).count(6), 1);
        }
        for (String text : new String[] {"dihedral 3;", "dihedral 8;", "quaternion;", "quaternion;cyclic 2;",
            "cyclic 2;dihedral 3;"}) {
            due(text, told(text).count(6), 0);
        }
    }

    private static void countsAre(SumFreeSets x, int... want) {
        for (int what = 0; what < want.length; what++) {
            due("count(" + what + ")", x.count(what), want[what]);
        }
    }

    private static void countsSets() {
        SAYS.promise(63, "7 to 9 what SHELF 0 to 2 holds, 10 GENERATORS, 11 all WEIGHTS together.");
        SumFreeSets x = told("cyclic 16;set 1;");
        x.keep(0);
        x.become(65535);
        x.keep(2);
        due("SHELF 0", x.count(7), 2);
        due("SHELF 1", x.count(8), 0);
        due("SHELF 2", x.count(9), 65535);
        due("GENERATORS of a ring", x.count(10), 1);
        for (int e = 0; e < 16; e++) {
            x.weigh(e, 9);
        }
        due("the most", x.count(11), 144);
        for (int e = 0; e < 16; e++) {
            x.weigh(e, 0);
        }
        due("the least", x.count(11), 0);
        due("GENERATORS of n 1", new SumFreeSets().count(10), 0);
    }

    private static void countsOthers() {
        SAYS.promise(63, "NONE for others.");
        for (String text : new String[] {"", "cyclic 5;set 1 4;", "quaternion;cyclic 2;set 15;"}) {
            SAYS.refuses(text, (x, what) -> x.count(what), -1, -2, -12, 12, 13, 14, 15, 16, 20, 32, 256, 65536,
                MIN, MIN + 1, MAX);
        }
        SumFreeSets x = told("cyclic 5;set 1 4;");
        for (int what = 0; what < 12; what++) {
            SAYS.due("count(" + what + ") is told", x.count(what) >= 0, true);
        }
    }

    private static void noneAheadOfMissing() {
        SAYS.term("Where NONE and -2 could both be told, it is NONE.");
        SumFreeSets x = new SumFreeSets();
        due("spell of nothing, i below NONE", x.spell(-2), NONE);
        due("spell of nothing, i far below NONE", x.spell(MIN), NONE);
        due("report, i below NONE", x.report(-2), NONE);
        due("report, i far below NONE", x.report(MIN), NONE);
    }
}
