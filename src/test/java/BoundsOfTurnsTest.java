/** The boundaries of TURNS and CHARACTERS: promises 51 to 59, and the terms that say what they are. */
public final class BoundsOfTurnsTest {
    private static final int NONE = Sentences.NONE;
    private static final int MIN = Sentences.MIN;
    private static final int MAX = Sentences.MAX;
    private static final String FOUR_TWOS = "cyclic 2;cyclic 2;cyclic 2;cyclic 2;";
    private static final Sentences SAYS = new Sentences();

    public static void main(String[] args) {
        turns();
        images();
        orbits();
        orbitsOfKinds();
        orbitsOfOthers();
        characters();
        characterNumbers();
        sumsModulo();
        charactersThatAreNotThere();
        charactersOutOfBounds();
        lifts();
        liftsThatAreNotThere();
        liftsOutOfBounds();
        middles();
        lifted();
        noneAheadOfMissing();
        SAYS.end(51, 59);
    }

    private static void due(String call, long got, long want) {
        SAYS.due(call, got, want);
    }

    private static int bits(int... elements) {
        return Sentences.bits(elements);
    }

    private static SumFreeSets told(String text) {
        return Sentences.told(text);
    }

    private static void turns() {
        SAYS.promise(51, "How many TURNS there are.");
        due("n is 1", new SumFreeSets().turns(), 1);
        int[] rings = {1, 1, 2, 2, 4, 2, 6, 4, 6, 4, 10, 4, 12, 6, 8, 8};
        for (int n = 2; n <= 16; n++) {
            due("a ring of " + n, told("cyclic " + n + ";").turns(), rings[n - 1]);
        }
        int[] dihedral = {1, 6, 6, 8, 20, 12, 42, 32};
        for (int n = 1; n <= 8; n++) {
            due("dihedral " + n, told("dihedral " + n + ";").turns(), dihedral[n - 1]);
        }
        due("quaternion", told("quaternion;").turns(), 24);
        due("quaternion and 2", told("quaternion;cyclic 2;").turns(), 192);
        due("the most", told(FOUR_TWOS).turns(), 20160);
        due("4 and 4", told("cyclic 4;cyclic 4;").turns(), 96);
        // 1 can't go to 4, though 4 has two as its order, too: 4 is 2 2
        due("2 and 4", told("cyclic 2;cyclic 4;").turns(), 8);
        due("4 and 2", told("cyclic 4;cyclic 2;").turns(), 8);
        due("asked again", told("cyclic 16;").turns(), 8);
        SAYS.term("TURNS: ways to send each ELEMENT to another (or the same) one, no two to one, so that "
            + "PRODUCTS go to PRODUCTS.");
        due("the same ones alone", told("cyclic 2;").turns(), 1);
        due("the same ones, the inverses", told("cyclic 3;").turns(), 2);
        due("any two of three", told("dihedral 2;").turns(), 6);
        due("no two to one: not all to 0", told("dihedral 1;").turns(), 1);
    }

    private static void images() {
        SAYS.promise(52, "IMAGE. NONE: out of bounds.");
        SAYS.setOutOfBounds((x, set) -> x.image(set));
        for (String text : new String[] {"", "cyclic 2;", "cyclic 16;", "quaternion;", FOUR_TWOS}) {
            SumFreeSets x = told(text);
            int all = (1 << x.count(0)) - 1;
            due(text + " empty", x.image(0), 0);
            due(text + " 0", x.image(1), 1);
            due(text + " all", x.image(all), all);
            due(text + " all but 0", x.image(all - 1), all - 1);
        }
        SAYS.term("IMAGE of a SET: the least (as a number) of all SETS to which TURNS send it; ORBIT: how "
            + "many these are.");
        SumFreeSets x = told("cyclic 16;");
        due("15 to 1", x.image(bits(15)), bits(1));
        due("2 to 1, of two", told("cyclic 3;").image(bits(2)), bits(1));
        due("14 to 2", x.image(bits(14)), bits(2));
        due("8 stays", x.image(bits(8)), bits(8));
        due("it is the least itself", x.image(bits(1)), bits(1));
        due("0 goes to 0", x.image(bits(0, 15)), bits(0, 1));
        due("how many 15 goes to", x.orbit(bits(15)), 8);
        due("the last of four twos", told(FOUR_TWOS).image(bits(15)), bits(1));
    }

    private static void orbits() {
        SAYS.promise(53, "ORBIT. NONE: out of bounds.");
        SAYS.setOutOfBounds((x, set) -> x.orbit(set));
        for (String text : new String[] {"", "cyclic 2;", "cyclic 16;", "quaternion;", FOUR_TWOS}) {
            SumFreeSets x = told(text);
            int all = (1 << x.count(0)) - 1;
            due(text + " empty", x.orbit(0), 1);
            due(text + " 0", x.orbit(1), 1);
            due(text + " all", x.orbit(all), 1);
            due(text + " all but 0", x.orbit(all - 1), 1);
        }
        due("one of four twos", told(FOUR_TWOS).orbit(bits(15)), 15);
        due("two of four twos", told(FOUR_TWOS).orbit(bits(1, 15)), 105);
        due("the greatest", told(FOUR_TWOS).orbit(bits(1, 2, 3, 4, 5, 8)), 2520);
        due("i of quaternions", told("quaternion;").orbit(bits(7)), 6);
        due("the opposite of one", told("quaternion;").orbit(bits(4)), 1);
    }

    private static void orbitsOfKinds() {
        SAYS.promise(54, "Into how many ORBITS the SETS of a KIND of k ELEMENTS fall.");
        SumFreeSets x = told("cyclic 16;");
        due("of none", x.orbits(0, 0), 1);
        due("of one: 1, 2, 4, 8", x.orbits(0, 1), 4);
        due("the greatest", x.orbits(0, 8), 1);
        due("FULL", x.orbits(1, 8), 1);
        due("COMPLETE", x.orbits(2, 8), 1);
        for (int k : new int[] {9, 15, 16, 17, 32, 65536, MAX}) {
            due("of " + k, x.orbits(0, k), 0);
        }
        due("FULL, of none", x.orbits(1, 0), 0);
        due("n is 1", new SumFreeSets().orbits(0, 0), 1);
        due("n is 1, FULL", new SumFreeSets().orbits(1, 0), 1);
        due("n is 1, COMPLETE", new SumFreeSets().orbits(2, 0), 0);
        due("n is 1, of one", new SumFreeSets().orbits(0, 1), 0);
        due("COMPLETE of 3", told("cyclic 3;").orbits(2, 1), 0);
        due("four twos", told(FOUR_TWOS).orbits(0, 8), 1);
        due("all fall into as many", told("cyclic 2;").orbits(0, 1), 1);
    }

    private static void orbitsOfOthers() {
        SAYS.promise(54, "NONE: another KIND, k below 0.");
        SAYS.onlyFromTo(0, 2, (x, kind) -> x.orbits(kind, 1));
        SAYS.onlyFrom(0, (x, k) -> x.orbits(0, k));
        SAYS.onlyFrom(0, (x, k) -> x.orbits(2, k));
        due("k is NONE", told("cyclic 5;").orbits(0, NONE), NONE);
        due("both", told("cyclic 5;").orbits(3, -1), NONE);
    }

    private static void characters() {
        SAYS.promise(55, "How many CHARACTERS into m there are. NONE: m out of bounds.");
        SAYS.onlyFromTo(1, 16, (x, m) -> x.characters(m));
        for (String text : new String[] {"", "cyclic 16;", "dihedral 8;", "quaternion;", FOUR_TWOS}) {
            due(text + " into 1", told(text).characters(1), 1);
        }
        SumFreeSets ring = told("cyclic 16;");
        int[] due = {1, 2, 1, 4, 1, 2, 1, 8, 1, 2, 1, 4, 1, 2, 1, 16};
        for (int m = 1; m <= 16; m++) {
            due("of 1 into " + m, new SumFreeSets().characters(m), 1);
            due("of 16 into " + m, ring.characters(m), due[m - 1]);
            due("of 15 into " + m, told("cyclic 15;").characters(m),
                m == 15 ? 15 : m % 5 == 0 ? 5 : m % 3 == 0 ? 3 : 1);
            due("of four twos into " + m, told(FOUR_TWOS).characters(m), m % 2 == 0 ? 16 : 1);
            due("of quaternions into " + m, told("quaternion;").characters(m), m % 2 == 0 ? 4 : 1);
        }
    }

    private static void characterNumbers() {
        SAYS.promise(56, "The number to which the k-th CHARACTER into m sends an ELEMENT;");
        SumFreeSets x = told("cyclic 16;");
        for (int k = 0; k < 16; k++) {
            due("0", x.character(16, k, 0), 0);
            due("1", x.character(16, k, 1), k);
            due("the last one, wrapped around", x.character(16, k, 15), (16 - k) % 16);
            due("8", x.character(16, k, 8), k % 2 * 8);
        }
        due("into 1", x.character(1, 0, 15), 0);
        due("n is 1", new SumFreeSets().character(16, 0, 0), 0);
        SAYS.term("by the numbers of GENERATORS, the first one first.");
        x = told("cyclic 2;cyclic 4;");
        for (int k = 0; k < 8; k++) {
            due("of 1, the first GENERATOR", x.character(4, k, 1), k / 4 * 2);
            due("of 2, the second one", x.character(4, k, 2), k % 4);
            due("of the last one", x.character(4, k, 7), (k / 4 * 2 + 3 * (k % 4)) % 4);
        }
        x = told(FOUR_TWOS);
        for (int k = 0; k < 16; k++) {
            for (int i = 0; i < 4; i++) {
                due("of GENERATOR " + i, x.character(2, k, 1 << i), k >> 3 - i & 1);
            }
        }
    }

    private static void sumsModulo() {
        SAYS.term("CHARACTERS into m (1 .. 16): ways to send each ELEMENT to a number 0 .. m less 1 so that "
            + "PRODUCTS go to sums "
            + "modulo m");
        for (String text : new String[] {"cyclic 8;", "dihedral 4;", "quaternion;", "cyclic 2;cyclic 3;"}) {
            for (int m = 1; m <= 16; m++) {
                sumsModulo(text, m);
            }
        }
    }

    private static void sumsModulo(String text, int m) {
        SumFreeSets x = told(text);
        int n = x.count(0);
        int many = x.characters(m);
        for (int k = 0; k < many; k++) {
            int[] sent = new int[n];
            for (int e = 0; e < n; e++) {
                sent[e] = x.character(m, k, e);
                SAYS.due(text + " 0 .. m less 1", sent[e] >= 0 && sent[e] < m, true);
            }
            int g = n - 1;
            for (int e = 0; e < n; e++) {
                due(text + " " + e + " and the last one", sent[x.product(e, g)], (sent[e] + sent[g]) % m);
                due(text + " 1 and " + e, sent[x.product(1, e)], (sent[1] + sent[e]) % m);
            }
        }
    }

    private static void charactersThatAreNotThere() {
        SAYS.promise(56, "-2: there are not so many.");
        for (int m = 1; m <= 16; m++) {
            due("of 1", new SumFreeSets().character(m, 1, 0), -2);
            SumFreeSets x = told("cyclic 16;");
            int many = x.characters(m);
            SAYS.due("the last one into " + m, x.character(m, many - 1, 15) >= 0, true);
            due("behind it, into " + m, x.character(m, many, 15), -2);
            for (int k : new int[] {16, 17, 32, 256, MAX}) {
                due(k + " into " + m, x.character(m, k, 0), -2);
            }
        }
    }

    private static void charactersOutOfBounds() {
        SAYS.promise(56, "NONE: out of bounds, no such ELEMENT, k below 0.");
        SAYS.onlyFromTo(1, 16, (x, m) -> x.character(m, 0, 0));
        SAYS.onlyFromTo(1, 16, (x, m) -> x.character(m, 16, 0));
        SAYS.noSuchElement((x, e) -> x.character(2, 0, e));
        SAYS.noSuchElement((x, e) -> x.character(16, 99, e));
        SAYS.onlyFrom(0, (x, k) -> x.character(4, k, 0));
    }

    private static void lifts() {
        SAYS.promise(57, "LIFT of a SET of numbers (bits below m) by the k-th CHARACTER into m;");
        SumFreeSets x = told("cyclic 16;");
        for (int m = 1; m <= 16; m++) {
            int all = (1 << m) - 1;
            due("of no number, into " + m, x.lift(m, 0, 0), 0);
            due("of 0, into " + m, x.lift(m, 0, 1), 65535);
            due("of all, into " + m, x.lift(m, 0, all), 65535);
            due("of all but 0, into " + m, x.lift(m, 0, all - 1), 0);
            due("n is 1, into " + m, new SumFreeSets().lift(m, 0, all), 1);
        }
        due("by 1: itself", x.lift(16, 1, 0xAAAA), 0xAAAA);
        due("by 15: the inverses", x.lift(16, 15, bits(1, 2)), bits(15, 14));
        due("by 8", x.lift(16, 8, bits(8)), 0xAAAA);
        due("by the last one into 2", x.lift(2, 1, 2), 0xAAAA);
        due("the last number", x.lift(16, 1, 1 << 15), 1 << 15);
    }

    private static void liftsThatAreNotThere() {
        SAYS.promise(57, "-2: there are not so many.");
        for (int m = 1; m <= 16; m++) {
            SumFreeSets x = told("cyclic 16;");
            int many = x.characters(m);
            SAYS.due("the last one into " + m, x.lift(m, many - 1, 1) >= 0, true);
            for (int k : new int[] {many, many + 1, 16, 17, 32, MAX}) {
                due(k + " into " + m, x.lift(m, k, 0), -2);
                due(k + " into " + m, x.lift(m, k, (1 << m) - 1), -2);
            }
            due("n is 1", new SumFreeSets().lift(m, 1, 1), -2);
        }
    }

    private static void liftsOutOfBounds() {
        SAYS.promise(57, "NONE: out of bounds, k below 0.");
        SAYS.onlyFromTo(1, 16, (x, m) -> x.lift(m, 0, 0));
        SAYS.onlyFromTo(1, 16, (x, m) -> x.lift(m, 0, 1));
        SAYS.onlyFromTo(1, 16, (x, m) -> x.lift(m, 16, 0));
        SAYS.onlyFrom(0, (x, k) -> x.lift(4, k, 1));
        for (int m = 1; m <= 16; m++) {
            int ring = m;
            SAYS.refuses("cyclic 16;", (x, numbers) -> x.lift(ring, 0, numbers), 1 << m, 1 << m | 1, -1, -2,
                MIN, MIN | 1, (2 << m) - 1, 1 << 30, MAX, -1 << m);
        }
    }

    private static void middles() {
        SAYS.promise(58, "MIDDLE of m (bits). NONE: out of bounds.");
        SAYS.onlyFromTo(1, 16, (x, m) -> x.middle(m));
        int[] due = {
            0, bits(1), bits(2), bits(2), bits(2, 3), bits(3, 4), bits(3, 4), bits(3, 4, 5), bits(4, 5, 6),
                bits(4, 5, 6),
            bits(4, 5, 6, 7), bits(5, 6, 7, 8), bits(5, 6, 7, 8), bits(5, 6, 7, 8, 9), bits(6, 7, 8, 9, 10),
            bits(6, 7, 8, 9, 10),
        };
        for (int m = 1; m <= 16; m++) {
            due("of " + m, new SumFreeSets().middle(m), due[m - 1]);
            due("of " + m + ", whatever the GROUP", told("cyclic 3;").middle(m), due[m - 1]);
        }
        SAYS.term("MIDDLE of m: the numbers x with 3 x above m, not above 2 m.");
        for (int m = 3; m <= 15; m += 3) {
            int middle = new SumFreeSets().middle(m);
            due("3 x is m: not", middle >> m / 3 & 1, 0);
            due("one more", middle >> m / 3 + 1 & 1, 1);
            due("3 x is 2 m", middle >> 2 * m / 3 & 1, 1);
            due("one more: not", middle >> 2 * m / 3 + 1 & 1, 0);
        }
    }

    private static void lifted() {
        SAYS.promise(59, "How many ELEMENTS the greatest LIFT of MIDDLE of m has. NONE: out of bounds.");
        SAYS.onlyFromTo(1, 16, (x, m) -> x.lifted(m));
        for (int m = 1; m <= 16; m++) {
            due("n is 1, of " + m, new SumFreeSets().lifted(m), 0);
        }
        SumFreeSets x = told("cyclic 16;");
        due("of 1", x.lifted(1), 0);
        due("of 2", x.lifted(2), 8);
        due("of 3: all go to 0", x.lifted(3), 0);
        due("of 16", x.lifted(16), 8);
        due("of 3 in a ring of 15", told("cyclic 15;").lifted(3), 5);
        due("of 5 in a ring of 15", told("cyclic 15;").lifted(5), 6);
        due("of 15 in a ring of 15", told("cyclic 15;").lifted(15), 6);
        due("of 7 in a ring of 7", told("cyclic 7;").lifted(7), 2);
        due("of four twos", told(FOUR_TWOS).lifted(2), 8);
    }

    private static void noneAheadOfMissing() {
        SAYS.term("Where NONE and -2 could both be told, it is NONE.");
        SumFreeSets x = told("cyclic 5;");
        due("character, not so many, no such ELEMENT", x.character(5, 5, 5), NONE);
        due("character, not so many, below 0", x.character(5, 5, -1), NONE);
        due("character, m out of bounds", x.character(17, 99, 0), NONE);
        due("character, k below 0", x.character(5, MIN, 0), NONE);
        due("lift, not so many, numbers out of bounds", x.lift(5, 5, 32), NONE);
        due("lift, not so many, numbers below 0", x.lift(5, 5, -1), NONE);
        due("lift, m out of bounds", x.lift(0, 99, 0), NONE);
        due("lift, k below 0, numbers out of bounds", x.lift(5, -1, 32), NONE);
    }
}
