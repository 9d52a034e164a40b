/** The boundaries of ACTS: promises 5 to 15, and the terms that say what an ACT and a SHELF are. */
public final class BoundsOfActsTest {
    private static final int NONE = Sentences.NONE;
    private static final int MIN = Sentences.MIN;
    private static final int MAX = Sentences.MAX;
    private static final String FIVE = "cyclic 5;";
    private static final String TRIANGLE = "dihedral 3;";
    private static final Sentences SAYS = new Sentences();

    public static void main(String[] args) {
        putting();
        puttingNothing();
        becoming();
        becomingNothing();
        filling();
        fillingNothing();
        thinning();
        thinningOnce();
        thinningTheFirst();
        thinningNothing();
        shifting();
        shiftingNothing();
        inverting();
        turning();
        turningNothing();
        weighing();
        weighingNothing();
        weightsAtFirst();
        keeping();
        keepingNothing();
        taking();
        takingNothing();
        undoing();
        undoingNothing();
        latestTwelve();
        goingRound();
        textForgets();
        allElse();
        SAYS.end(5, 15);
    }

    private static void due(String call, long got, long want) {
        SAYS.due(call, got, want);
    }

    private static int bits(int... elements) {
        return Sentences.bits(elements);
    }

    private static SumFreeSets told(String text) {
        return Sentences.told(text);
    }

    /** One ACT: S is as told, one more can be undone, and undo() brings back what was. */
    private static void isOneAct(SumFreeSets x, int before, int behind, int acts) {
        due("S", x.count(2), behind);
        due("acts", x.count(4), acts);
        due("undo()", x.undo(), acts - 1);
        due("S", x.count(2), before);
    }

    private static void putting() {
        SAYS.promise(5, "An ELEMENT comes to S, or goes from it: true;");
        for (int n = 2; n <= 16; n++) {
            SumFreeSets x = told("cyclic " + n + ";");
            for (int e : new int[] {0, n - 1}) {
                SAYS.due("put(" + e + ", true)", x.put(e, true), true);
                isOneAct(x, 0, 1 << e, 1);
            }
            x.become((1 << n) - 1);
            SAYS.due("put(0, false)", x.put(0, false), true);
            isOneAct(x, (1 << n) - 1, (1 << n) - 2, 2);
            SAYS.due("put(n less 1, false)", x.put(n - 1, false), true);
            isOneAct(x, (1 << n) - 1, (1 << n - 1) - 1, 2);
        }
    }

    private static void puttingNothing() {
        SAYS.promise(5, "false: no such ELEMENT, it is so.");
        for (boolean in : new boolean[] {true, false}) {
            for (String text : new String[] {"", "set 0;", FIVE + "set 0 4;", "cyclic 16;", "cyclic 16;set 0 15;"}) {
                int n = told(text).count(0);
                SAYS.refuses(text, (x, e) -> x.put(e, in) ? 1 : NONE, -1, -32, -31, MIN, MAX, n, n + 1, 16, 31, 32, 33,
                    32 + n, 64);
            }
            SumFreeSets x = told(FIVE + "set 0 4;");
            for (int e = 0; e < 5; e++) {
                int one = e;
                if (in == (e == 0 || e == 4)) {
                    SAYS.refused("put(" + e + ", " + in + ")", x, (y, v) -> y.put(one, in) ? 1 : NONE);
                }
            }
        }
    }

    private static void becoming() {
        SAYS.promise(6, "S is another SET: which it was;");
        for (String text : new String[] {"", FIVE, "quaternion;cyclic 2;"}) {
            SumFreeSets x = told(text);
            int all = (1 << x.count(0)) - 1;
            due("become(all)", x.become(all), 0);
            isOneAct(x, 0, all, 1);
            x.become(all);
            due("become(0)", x.become(0), all);
            isOneAct(x, all, 0, 2);
        }
    }

    private static void becomingNothing() {
        SAYS.promise(6, "NONE: out of bounds, it is so.");
        for (String text : new String[] {"", "set 0;", FIVE + "set 1 2;", "cyclic 16;set 15;"}) {
            int over = 1 << told(text).count(0);
            SAYS.refuses(text, (x, set) -> x.become(set), -1, -2, MIN, MIN | 1, over, over | 1,
                over + over - 1, over << 1, 1 << 30, MAX);
        }
        SAYS.refused("become(0)", new SumFreeSets(), (x, v) -> x.become(0));
        SAYS.refused("become(6)", told(FIVE + "set 1 2;"), (x, v) -> x.become(6));
        SAYS.refused("become(65535)", told("cyclic 2;set 0 1;"), (x, v) -> x.become(3));
    }

    private static void filling() {
        SAYS.promise(7, "From ELEMENT 0 on each comes to S, with which S is FREE then: how many;");
        SumFreeSets x = told(FIVE);
        // 0 breaks it by itself, 2 is 1 and 1, 3 and 3 is 1
        due("of none", x.fill(), 2);
        isOneAct(x, 0, bits(1, 4), 1);
        x.become(bits(3));
        due("1 does not come, 2 does", x.fill(), 1);
        isOneAct(x, bits(3), bits(2, 3), 2);
        x = told("cyclic 2;");
        due("the last one", x.fill(), 1);
        isOneAct(x, 0, 2, 1);
        x = told("cyclic 16;set 15;");
        due("each odd one", x.fill(), 7);
        isOneAct(x, 1 << 15, 0xAAAA, 1);
        x = told("cyclic 16;");
        // 1, 3, 5, .. come, and no even one
        due("of none", x.fill(), 8);
        isOneAct(x, 0, 0xAAAA, 1);
        x = told(TRIANGLE);
        // 1 comes; 2 is 1 1; of 3, 4, 5 each is 1 and another one: 3 comes, and then 4 is 1 3, 5 is 3 1
        due("no ring", x.fill(), 2);
        isOneAct(x, 0, bits(1, 3), 1);
    }

    private static void fillingNothing() {
        SAYS.promise(7, "NONE, and nothing happens: S is not FREE, none does.");
        SAYS.refused("0 alone", told(FIVE + "set 0;"), (x, v) -> x.fill());
        SAYS.refused("0 and one", told("cyclic 16;set 0 15;"), (x, v) -> x.fill());
        SAYS.refused("one and itself", told(FIVE + "set 2 4;"), (x, v) -> x.fill());
        SAYS.refused("all", told(TRIANGLE + "set 0 1 2 3 4 5;"), (x, v) -> x.fill());
        SAYS.refused("FULL", told(FIVE + "set 1 4;"), (x, v) -> x.fill());
        SAYS.refused("FULL, not COMPLETE", told("cyclic 3;set 1;"), (x, v) -> x.fill());
        SAYS.refused("n is 1", new SumFreeSets(), (x, v) -> x.fill());
        SAYS.refused("n is 1, 0", told("set 0;"), (x, v) -> x.fill());
        SumFreeSets x = told(FIVE);
        x.fill();
        SAYS.refused("behind fill()", x, (y, v) -> y.fill());
    }

    private static void thinning() {
        SAYS.promise(8, "As long as S is not FREE, that ELEMENT goes which is in most TRIPLES");
        SumFreeSets x = told("set 0;");
        due("0 alone", x.thin(), 1);
        isOneAct(x, 1, 0, 1);
        x = told("cyclic 4;set 0 1 2 3;");
        // 0 is in ten of sixteen; then 2 in four of (1,1,2) (1,2,3) (2,1,3) (2,3,1) (3,2,1) (3,3,2): in all six
        due("0, then 2", x.thin(), 2);
        isOneAct(x, 15, bits(1, 3), 1);
        x = told("cyclic 6;set 1 2 4 5;");
        // a TRIPLE of x, y and that of y, x are two
        due("both orders", x.thin(), 2);
        isOneAct(x, bits(1, 2, 4, 5), bits(2, 5), 1);
        x = told("cyclic 7;set 1 2 4;");
        x.usual(0);
        x.copies(bits(6));
        due("whatever was asked ahead", x.thin(), 2);
        isOneAct(x, bits(1, 2, 4), bits(4), 1);
        x = told(TRIANGLE + "set 0 1 2 3 4 5;");
        // 0 is in 16, then 3, 4, 5 in 12, then 4, 5 in 6, then 1, 2 in both that are left
        due("all of a triangle's", x.thin(), 4);
        isOneAct(x, 63, bits(2, 5), 1);
        x = told("cyclic 16;set 0 1 2 3 4 5 6 7 8 9 10 11 12 13 14 15;");
        due("the even ones", x.thin(), 8);
        isOneAct(x, 0xFFFF, 0xAAAA, 1);
    }

    private static void thinningOnce() {
        SAYS.promise(8, "(in however many of its three places one counts once)");
        // (3,3,2) alone: 3 is in two of its places, and in as many TRIPLES as 2
        SumFreeSets x = told("cyclic 4;set 2 3;");
        due("thin()", x.thin(), 1);
        due("2 goes", x.count(2), bits(3));
        x = told(FIVE + "set 1 3;");
        // (3,3,1)
        due("thin()", x.thin(), 1);
        due("1 goes", x.count(2), bits(3));
        x = told(TRIANGLE + "set 1 2 3 4;");
        due("thin()", x.thin(), 2);
        due("1, then 3", x.count(2), bits(2, 4));
    }

    private static void thinningTheFirst() {
        SAYS.promise(8, "of several the first: how many;");
        // (1,1,2) (2,2,4) (4,4,1): each in two; then 2 and 4 in one
        SumFreeSets x = told("cyclic 7;set 1 2 4;");
        due("thin()", x.thin(), 2);
        due("1, then 2", x.count(2), bits(4));
        x = told("cyclic 3;set 1 2;");
        due("thin()", x.thin(), 1);
        due("1", x.count(2), bits(2));
        x = told("cyclic 16;set 14 15;");
        due("thin()", x.thin(), 1);
        due("14", x.count(2), bits(15));
    }

    private static void thinningNothing() {
        SAYS.promise(8, "NONE, and nothing happens: it is FREE.");
        SAYS.refused("empty, n is 1", new SumFreeSets(), (x, v) -> x.thin());
        SAYS.refused("empty", told("cyclic 16;"), (x, v) -> x.thin());
        SAYS.refused("one", told(FIVE + "set 4;"), (x, v) -> x.thin());
        SAYS.refused("FULL", told(FIVE + "set 1 4;"), (x, v) -> x.thin());
        SumFreeSets x = told(FIVE + "set 0 1 2 3 4;");
        x.thin();
        SAYS.refused("behind thin()", x, (y, v) -> y.thin());
    }

    private static void shifting() {
        SAYS.promise(9, "S becomes all PRODUCTS of g and its ELEMENTS (left: g is the first): which SET that is;");
        SumFreeSets x = told(FIVE + "set 3 4;");
        due("it wraps around", x.shift(1, true), bits(4, 0));
        isOneAct(x, bits(3, 4), bits(0, 4), 1);
        due("by the last one", x.shift(4, false), bits(2, 3));
        isOneAct(x, bits(3, 4), bits(2, 3), 1);
        x = told(TRIANGLE + "set 3;");
        due("left", x.shift(1, true), bits(4));
        isOneAct(x, bits(3), bits(4), 1);
        due("right", x.shift(1, false), bits(5));
        isOneAct(x, bits(3), bits(5), 1);
        x = told("cyclic 16;set 15;");
        due("to 0", x.shift(1, true), 1);
        due("to 15", x.shift(15, true), 1 << 15);
    }

    private static void shiftingNothing() {
        SAYS.promise(9, "NONE: no such ELEMENT, it is so.");
        for (boolean left : new boolean[] {true, false}) {
            for (String text : new String[] {"", "set 0;", FIVE + "set 1 2;", "cyclic 16;set 1;"}) {
                int n = told(text).count(0);
                SAYS.refuses(text, (x, g) -> x.shift(g, left), -1, -32, -31, MIN, MAX, n, n + 1, 16, 17, 31,
                    32, 33, n + 32, 0);
            }
            SAYS.refused("of none", told(FIVE), (x, v) -> x.shift(3, left));
            SAYS.refused("of all", told("cyclic 3;set 0 1 2;"), (x, v) -> x.shift(2, left));
            SAYS.refused("of odd ones", told("cyclic 4;set 1 3;"), (x, v) -> x.shift(2, left));
        }
        SumFreeSets x = told(TRIANGLE + "set 1 4;");
        SAYS.refused("5 ahead", x, (y, v) -> y.shift(5, true));
        due("5 behind", x.shift(5, false), bits(3, 2));
    }

    private static void inverting() {
        SAYS.promise(10, "S becomes the inverses of its ELEMENTS: which SET that is; NONE: it is so.");
        SumFreeSets x = told(FIVE + "set 0 1 2;");
        due("inverses", x.invert(), bits(0, 3, 4));
        isOneAct(x, bits(0, 1, 2), bits(0, 3, 4), 1);
        x = told("quaternion;set 1 2 7;");
        due("opposites", x.invert(), bits(5, 6, 3));
        isOneAct(x, bits(1, 2, 7), bits(5, 6, 3), 1);
        SAYS.refused("n is 1", new SumFreeSets(), (y, v) -> y.invert());
        SAYS.refused("n is 1, 0", told("set 0;"), (y, v) -> y.invert());
        SAYS.refused("of none", told(FIVE), (y, v) -> y.invert());
        SAYS.refused("of all", told("cyclic 3;set 0 1 2;"), (y, v) -> y.invert());
        SAYS.refused("both of two", told(FIVE + "set 1 4;"), (y, v) -> y.invert());
        SAYS.refused("flips", told(TRIANGLE + "set 3 5;"), (y, v) -> y.invert());
        SAYS.refused("a half", told("cyclic 16;set 0 8;"), (y, v) -> y.invert());
    }

    private static void turning() {
        SAYS.promise(11, "S becomes all PRODUCTS of g, an ELEMENT of it, the inverse of g: which SET that is;");
        SumFreeSets x = told(TRIANGLE + "set 3;");
        // 1 3 2: (1,1)(2,0) is (1 less 2, 1), below 0, so 2 and 3
        due("by 1", x.turn(1), bits(5));
        isOneAct(x, bits(3), bits(5), 1);
        due("by 2", x.turn(2), bits(4));
        isOneAct(x, bits(3), bits(4), 1);
        x = told("quaternion;set 1 6;");
        due("by j", x.turn(2), bits(5, 6));
        isOneAct(x, bits(1, 6), bits(5, 6), 1);
        x = told("dihedral 8;set 1 8;");
        due("by the last one", x.turn(15), bits(7, 14));
        isOneAct(x, bits(1, 8), bits(7, 14), 1);
    }

    private static void turningNothing() {
        SAYS.promise(11, "NONE: no such ELEMENT, it is so.");
        for (String text : new String[] {"", "set 0;", FIVE + "set 1 2;", TRIANGLE + "set 1 3;", "dihedral 8;set 9;"}) {
            int n = told(text).count(0);
            SAYS.refuses(text, (x, g) -> x.turn(g), -1, -32, -31, MIN, MAX, n, n + 1, 16, 17, 32, 33, n + 32, 0);
        }
        for (int g = 0; g < 5; g++) {
            int by = g;
            SAYS.refused("in a ring", told(FIVE + "set 1 2;"), (x, v) -> x.turn(by));
            SAYS.refused("of none", told(TRIANGLE), (x, v) -> x.turn(by));
            SAYS.refused("of all alike", told(TRIANGLE + "set 3 4 5;"), (x, v) -> x.turn(by));
        }
        SAYS.refused("one that stays", told(TRIANGLE + "set 3;"), (x, v) -> x.turn(3));
    }

    private static void weighing() {
        SAYS.promise(12, "A WEIGHT is another one: which it was;");
        SumFreeSets x = told("cyclic 16;");
        int sum = 16;
        for (int e : new int[] {0, 15}) {
            int old = 1;
            for (int weight : new int[] {0, 9, 8, 1, 0}) {
                due("weigh(" + e + ", " + weight + ")", x.weigh(e, weight), old);
                sum += weight - old;
                old = weight;
                due("all", x.count(11), sum);
            }
        }
        due("acts", x.count(4), 10);
        due("undo()", x.undo(), 9);
        due("all", x.count(11), sum + 1);
        x = new SumFreeSets();
        due("n is 1", x.weigh(0, 9), 1);
        due("all", x.count(11), 9);
    }

    private static void weighingNothing() {
        SAYS.promise(12, "NONE: no such ELEMENT, out of bounds, it is so.");
        for (String text : new String[] {"", FIVE, "cyclic 16;"}) {
            int n = told(text).count(0);
            SAYS.refuses(text, (x, e) -> x.weigh(e, 2), -1, -32, -31, MIN, MAX, n, n + 1, 16, 17, 18, 19, 20,
                32, 33, n + 32);
            SAYS.refuses(text, (x, weight) -> x.weigh(0, weight), -1, -2, MIN, 10, 11, 16, 256, MAX, 1);
            SAYS.refuses(text, (x, weight) -> x.weigh(n - 1, weight), -1, 10, 1);
        }
        SumFreeSets x = told(FIVE);
        x.weigh(4, 9);
        SAYS.refused("9 again", x, (y, v) -> y.weigh(4, 9));
        x.weigh(4, 0);
        SAYS.refused("0 again", x, (y, v) -> y.weigh(4, 0));
        SAYS.refused("both wrong", x, (y, v) -> y.weigh(5, 10));
    }

    private static void weightsAtFirst() {
        SAYS.term("Each ELEMENT has a WEIGHT (0 .. 9; 1 at first, and behind text()).");
        SumFreeSets x = told("cyclic 16;");
        for (int e = 0; e < 16; e++) {
            due("at first", x.weigh(e, e % 9 == 1 ? 0 : e % 9), 1);
        }
        Check.tell(x, FIVE);
        due("all", x.count(11), 5);
        for (int e = 0; e < 5; e++) {
            due("behind text()", x.weigh(e, 9), 1);
        }
        due("all", x.count(11), 45);
        Check.tell(x, "cyclic 16;");
        due("all", x.count(11), 16);
        Check.tell(x, "cyclic 16;x");
        due("behind a FAULT", x.count(11), 16);
        x.weigh(3, 4);
        Check.tell(x, "cyclic 16;x");
        due("behind a FAULT", x.weigh(3, 5), 4);
    }

    private static void keeping() {
        SAYS.promise(13, "S is laid on a SHELF (0 .. 2): what it held;");
        SumFreeSets x = told(FIVE + "set 1 4;");
        for (int shelf = 0; shelf < 3; shelf++) {
            x.become(18 + shelf);
            due("keep(" + shelf + ")", x.keep(shelf), 0);
        }
        for (int shelf = 0; shelf < 3; shelf++) {
            due("shelf " + shelf, x.count(7 + shelf), 18 + shelf);
        }
        x.become(31);
        due("keep(0)", x.keep(0), 18);
        due("S stays", x.count(2), 31);
        due("the next one stays", x.count(8), 19);
        due("an act", x.count(4), 7);
        due("undo()", x.undo(), 6);
        due("shelf 0", x.count(7), 18);
        x.become(0);
        due("the empty one", x.keep(2), 20);
        due("shelf 2", x.count(9), 0);
    }

    private static void keepingNothing() {
        SAYS.promise(13, "NONE: no such one, it holds that.");
        for (String text : new String[] {"set 0;", FIVE + "set 1 2;", "cyclic 16;set 15;"}) {
            SAYS.refuses(text, (x, shelf) -> x.keep(shelf), -1, -2, -3, -16, MIN, 3, 4, 5, 7, 16, 32, 256, MAX);
        }
        for (int shelf = 0; shelf < 3; shelf++) {
            int one = shelf;
            SAYS.refused("empty on empty", told(FIVE), (x, v) -> x.keep(one));
            SumFreeSets x = told(FIVE + "set 1 2;");
            x.keep(shelf);
            SAYS.refused("again", x, (y, v) -> y.keep(one));
        }
    }

    private static void taking() {
        SAYS.promise(14, "S becomes what a SHELF holds: which SET that is;");
        SumFreeSets x = told("cyclic 16;set 15;");
        due("an empty one", x.take(0), 0);
        isOneAct(x, 1 << 15, 0, 1);
        for (int shelf = 0; shelf < 3; shelf++) {
            x.become(shelf == 1 ? 65535 : 2 + shelf);
            x.keep(shelf);
        }
        due("take(1)", x.take(1), 65535);
        due("shelf 1 keeps it", x.count(8), 65535);
        due("take(0)", x.take(0), 2);
        due("take(2)", x.take(2), 4);
        int acts = x.count(4);
        isOneAct(x, 2, 4, acts);
    }

    private static void takingNothing() {
        SAYS.promise(14, "NONE: no such one, it is so.");
        for (String text : new String[] {"set 0;", FIVE + "set 1 2;", "cyclic 16;set 15;"}) {
            SAYS.refuses(text, (x, shelf) -> x.take(shelf), -1, -2, -3, -16, MIN, 3, 4, 5, 7, 16, 32, 256, MAX);
        }
        for (int shelf = 0; shelf < 3; shelf++) {
            int one = shelf;
            SAYS.refused("empty from empty", told(FIVE), (x, v) -> x.take(one));
            SumFreeSets x = told(FIVE + "set 1 2;");
            x.keep(shelf);
            SAYS.refused("what lies there", x, (y, v) -> y.take(one));
        }
    }

    private static void undoing() {
        SAYS.promise(15, "The latest ACT is taken back: how many more can be;");
        SumFreeSets x = told(TRIANGLE + "set 1 3;");
        String[] states = new String[11];
        for (int act = 0; act < 11; act++) {
            states[act] = counted(x);
            SAYS.due("act " + act, act(x, act), true);
            due("acts", x.count(4), act + 1);
        }
        for (int act = 10; act >= 0; act--) {
            due("undo() of act " + act, x.undo(), act);
            SAYS.due("the state ahead of act " + act, counted(x), states[act]);
        }
        due("none is left", x.undo(), NONE);
    }

    /** The state, but for how many ACTS can be undone. */
    private static String counted(SumFreeSets x) {
        StringBuilder text = new StringBuilder();
        for (int what : new int[] {0, 2, 7, 8, 9, 11}) {
            text.append(x.count(what)).append(' ');
        }
        return text.append(x.best(0)).append(' ').append(x.best(1)).toString();
    }

    /** One of eleven ACTS, each of which changes something behind those ahead. */
    private static boolean act(SumFreeSets x, int which) {
        return switch (which) {
            case 0 -> x.keep(0) != NONE;
            case 1 -> x.shift(1, true) != NONE;
            case 2 -> x.invert() != NONE;
            case 3 -> x.turn(1) != NONE;
            case 4 -> x.weigh(5, 9) != NONE;
            case 5 -> x.become(bits(0, 1, 2, 3)) != NONE;
            case 6 -> x.thin() != NONE;
            case 7 -> x.become(bits(5)) != NONE;
            case 8 -> x.fill() != NONE;
            case 9 -> x.put(0, true);
            default -> x.take(0) != NONE;
        };
    }

    private static void undoingNothing() {
        SAYS.promise(15, "NONE: none can.");
        SAYS.refused("at first", new SumFreeSets(), (x, v) -> x.undo());
        SAYS.refused("behind text()", told(FIVE + "set 1;"), (x, v) -> x.undo());
        SumFreeSets x = told(FIVE);
        x.put(5, true);
        x.become(-1);
        x.thin();
        x.weigh(0, 1);
        SAYS.refused("behind what is no act", x, (y, v) -> y.undo());
        x.put(4, true);
        due("one can", x.undo(), 0);
        SAYS.refused("an undo can't be undone", x, (y, v) -> y.undo());
        SAYS.refused("and again", x, (y, v) -> y.undo());
    }

    private static void latestTwelve() {
        SAYS.term("ACTS, of which the latest 12 can be undone");
        for (int acts = 11; acts <= 40; acts++) {
            SumFreeSets x = told("cyclic 16;");
            for (int i = 1; i <= acts; i++) {
                x.become(i);
                due("acts", x.count(4), Math.min(i, 12));
            }
            // what is no act forgets none of the twelve
            x.become(acts);
            x.put(16, true);
            x.weigh(3, 10);
            x.keep(3);
            int can = Math.min(acts, 12);
            for (int i = 1; i <= can; i++) {
                due(acts + " acts, undo " + i, x.undo(), can - i);
                due(acts + " acts, S", x.count(2), acts - i);
            }
            due(acts + " acts, no more", x.undo(), NONE);
            due(acts + " acts, S stays", x.count(2), acts - can);
        }
    }

    private static void goingRound() {
        SAYS.promise(15, "The latest ACT is taken back");
        // acts and undos by turns, so that the twelve begin at every place
        SumFreeSets x = told("cyclic 16;");
        int made = 0;
        int can = 0;
        for (int round = 1; round <= 12; round++) {
            for (int i = 0; i < round; i++) {
                made++;
                can = Math.min(can + 1, 12);
                due("become(" + made + ")", x.become(made), made - 1);
            }
            for (int i = 1; i < round; i++) {
                made--;
                can--;
                due("undo()", x.undo(), can);
                due("S", x.count(2), made);
            }
        }
        due("what thirteen acts have forgotten stays so", x.count(4), 1);
        due("undo()", x.undo(), 0);
        due("S", x.count(2), made - 1);
        due("undo()", x.undo(), NONE);
    }

    private static void textForgets() {
        SAYS.term("(text() forgets them; it empties the three SHELVES, each of which holds a SET: empty at first)");
        SumFreeSets x = told("cyclic 16;set 15;");
        for (int shelf = 0; shelf < 3; shelf++) {
            due("empty at first", x.count(7 + shelf), 0);
            x.keep(shelf);
        }
        due("text", Check.tell(x, FIVE), 5);
        for (int shelf = 0; shelf < 3; shelf++) {
            due("emptied", x.count(7 + shelf), 0);
            SAYS.refused("take(" + shelf + ")", x, (y, v) -> y.take(0));
        }
        due("acts", x.count(4), 0);
        due("undo()", x.undo(), NONE);
        due("shelves stay empty", x.count(7) | x.count(8) | x.count(9), 0);
        for (int i = 1; i <= 13; i++) {
            x.become(i);
        }
        x.text();
        due("acts", x.count(4), 0);
        due("undo()", x.undo(), NONE);
        due("S", x.count(2), 0);
    }

    private static void allElse() {
        SAYS.term("All else changes nothing.");
        for (int value : new int[] {0, 1, 5, 1023, 1024, -1, -2, MIN, MAX}) {
            SumFreeSets x = told("dihedral 5;set 1 5 7;");
            x.weigh(7, 3);
            x.keep(1);
            Check.feed(x, "cyc");
            String before = Check.state(x);
            asks(x, value);
            SAYS.due("behind calls of " + value, Check.state(x), before);
            due("the tape", x.text(), -4);
        }
    }

    private static void asks(SumFreeSets x, int v) {
        int[] answers = {
            x.product(v, v), x.inverse(v), x.orderOf(v), x.centre(), x.span(v), x.subgroups(), x.coset(v, v, true),
            x.generator(v), x.alike(v), x.kin(), x.normal(v), x.power(v, 3), x.covers(v), x.is(v, 1), x.triples(v),
            x.triple(v, 1), x.products(v, v), x.quotients(v), x.even(v), x.copies(v), x.open(v), x.period(v, false),
            x.ways(v, 3),
        };
        int[] more = {
            x.energy(v), x.many(v, v), x.greatest(), x.nth(v, 1, v), x.within(v, true), x.nearest(v, 1, 1), x.best(v),
            x.mean(v, true), x.usual(v), x.parts(v), x.classes(), x.colour(v), x.turns(), x.image(v), x.orbit(v),
            x.orbits(v, 2), x.characters(v), x.character(v, 0, v), x.lift(v, 0, 1), x.middle(v), x.lifted(v),
            x.ints(v, v), x.spell(v), x.report(v), x.count(v), x.back(0),
        };
        SAYS.due("all were asked", answers.length + more.length, 49);
    }
}
