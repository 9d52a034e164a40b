import java.util.Arrays;

/** The boundaries of the tape and of a TEXT: promises 1 to 4, and the terms that say what a TEXT is. */
public final class BoundsOfTextsTest {
    private static final int NONE = Sentences.NONE;
    private static final int MIN = Sentences.MIN;
    private static final int MAX = Sentences.MAX;
    private static final int BLANKS = 0x20202020;
    private static final Sentences SAYS = new Sentences();

    public static void main(String[] args) {
        aNewObject();
        theLastCall();
        feeding();
        feedingTooMuch();
        takingBack();
        takingBackTooMuch();
        readingTheTape();
        allAnew();
        anewOfTheSameSize();
        allElseStays();
        rows();
        cyclicBounds();
        dihedralBounds();
        sizeOfAll();
        elementsOfTheSet();
        words();
        digits();
        blanks();
        blanksBetween();
        faultsOfNumbers();
        faultsOfTheSet();
        faultsOfQuaternion();
        faultsBehindTheSet();
        faultsAtTheEnd();
        theFirstFault();
        SAYS.end(1, 4);
    }

    private static void due(String call, long got, long want) {
        SAYS.due(call, got, want);
    }

    /** The answer to a text, told to a new object. */
    private static void text(String text, int want) {
        due("\"" + text + "\"", Sentences.answer(text), want);
    }

    private static void fault(String text, int place) {
        text(text, -4 - place);
    }

    private static int feedBlanks(SumFreeSets x) {
        return x.feed(BLANKS, BLANKS, BLANKS, BLANKS, BLANKS);
    }

    /** Twenty blanks, but for one byte. */
    private static int feedOne(SumFreeSets x, int place, int sign) {
        int[] words = {BLANKS, BLANKS, BLANKS, BLANKS, BLANKS};
        int shift = 24 - 8 * (place % 4);
        words[place / 4] = words[place / 4] & ~(255 << shift) | sign << shift;
        return x.feed(words[0], words[1], words[2], words[3], words[4]);
    }

    private static String blanks(int many) {
        return " ".repeat(many);
    }

    private static void aNewObject() {
        SAYS.promise(1, "n 1, S empty.");
        SumFreeSets x = new SumFreeSets();
        int[] first = {1, 0, 0, 0, 0, 0, 1, 0, 0, 0, 0, 1};
        for (int what = 0; what < first.length; what++) {
            due("count(" + what + ")", x.count(what), first[what]);
        }
        SAYS.due("put(1, true)", x.put(1, true), false);
        SAYS.due("put(0, false)", x.put(0, false), false);
        due("become(0)", x.become(0), NONE);
        due("spell(NONE)", x.spell(NONE), 0);
        due("undo()", x.undo(), NONE);
        SAYS.due("put(0, true)", x.put(0, true), true);
        x.weigh(0, 3);
        x.keep(2);
        SumFreeSets other = new SumFreeSets();
        for (int what = 0; what < first.length; what++) {
            due("count(" + what + ") of another one", other.count(what), first[what]);
        }
    }

    private static void theLastCall() {
        SAYS.aheadOfTerms("An object is used for at most 512 calls after it has been made");
        SumFreeSets x = new SumFreeSets();
        for (int call = 1; call <= 512; call++) {
            SAYS.due("call " + call, x.put(0, call % 2 == 1), true);
        }
        x = new SumFreeSets();
        for (int call = 1; call <= 510; call += 3) {
            due("call " + call, feedOne(x, 0, 's'), 20);
            due("call " + (call + 1), x.back(19), 1);
            due("call " + (call + 2), x.text(), -4);
        }
        due("call 511", x.count(5), 0);
        due("call 512", x.text(), 1);
    }

    private static void feeding() {
        SAYS.promise(2, "Twenty bytes, the highest of a first, come behind the tape: how many it has.");
        for (int place = 0; place < 20; place++) {
            for (int sign : new int[] {0, 127, 128, 255}) {
                SumFreeSets x = new SumFreeSets();
                due("feed", feedOne(x, place, sign), 20);
                due("byte " + place + " is " + sign, x.text(), -4 - place);
                feedBlanks(x);
                due("feed", feedOne(x, place, sign), 40);
                due("byte 20 + " + place + " is " + sign, x.text(), -4 - 20 - place);
            }
        }
        SumFreeSets x = new SumFreeSets();
        for (int i = 1; i <= 10; i++) {
            due("feed " + i, feedBlanks(x), 20 * i);
            due("count(5)", x.count(5), 20 * i);
        }
        due("none of them is lost", x.text(), 1);
    }

    private static void feedingTooMuch() {
        SAYS.promise(2, "NONE, and nothing comes, if it would have more than 200.");
        for (int length = 160; length <= 200; length++) {
            SumFreeSets x = new SumFreeSets();
            Check.feed(x, blanks(length));
            boolean fits = length <= 180;
            due("at " + length, x.feed(-1, -1, -1, -1, -1), fits ? length + 20 : NONE);
            due("count(5)", x.count(5), fits ? length + 20 : length);
            due("at " + length + " what came", x.text(), fits ? -4 - length : 1);
        }
        SumFreeSets x = new SumFreeSets();
        Check.feed(x, blanks(200));
        due("beyond 200", x.feed(-1, -1, -1, -1, -1), NONE);
        due("beyond 200, again", feedBlanks(x), NONE);
        due("20 fewer", x.back(20), 180);
        due("behind what is left", feedOne(x, 19, 'x'), 200);
        due("the last byte", x.text(), -4 - 199);
        due("from the beginning", feedBlanks(x), 20);
    }

    private static void takingBack() {
        SAYS.promise(3, "The last n bytes of the tape go: how many it has.");
        SumFreeSets x = new SumFreeSets();
        due("0 of none", x.back(0), 0);
        feedOne(x, 19, 'x');
        due("0 of some", x.back(0), 20);
        due("0 goes", x.count(5), 20);
        due("the last one", x.back(1), 19);
        due("text", x.text(), 1);
        feedOne(x, 0, 'x');
        due("all but the first", x.back(19), 1);
        due("text", x.text(), -4);
        feedOne(x, 0, 'x');
        due("all", x.back(20), 0);
        due("text", x.text(), 1);
        Check.feed(x, blanks(200));
        due("all of 200", x.back(200), 0);
        due("feed behind it", feedOne(x, 3, 'x'), 20);
        due("some", x.back(7), 13);
        due("feed behind what is left", feedOne(x, 0, 'x'), 33);
        due("text", x.text(), -4 - 3);
        feedBlanks(x);
        x.back(7);
        feedOne(x, 0, 'x');
        due("text", x.text(), -4 - 13);
        goneIsNotRead("cyclic 2;", 1, -4 - 8);
        goneIsNotRead("cyclic 12;", 2, -4 - 7);
        goneIsNotRead("cyclic 2;set;", 1, -4 - 12);
        goneIsNotRead("cyclic 2;set;", 4, 2);
        goneIsNotRead("cyclic 2;set 0 1;", 1, -4 - 16);
        goneIsNotRead("cyclic 2;set 0 1;", 3, -4 - 14);
        goneIsNotRead("quaternion;", 1, -4 - 10);
        goneIsNotRead("quaternion;", 2, -4);
    }

    /** The last bytes of a text go, and nothing comes in their place. */
    private static void goneIsNotRead(String text, int gone, int want) {
        SumFreeSets x = new SumFreeSets();
        int length = Check.feed(x, text);
        due("back(" + gone + ") of \"" + text + "\"", x.back(gone), length - gone);
        due("back(" + gone + ") of \"" + text + "\", text()", x.text(), want);
    }

    private static void takingBackTooMuch() {
        SAYS.promise(3, "NONE, and nothing goes, if it has not so many, or n is below 0.");
        for (int length : new int[] {0, 1, 19, 20, 21, 199, 200}) {
            SumFreeSets x = new SumFreeSets();
            Check.feed(x, blanks(length));
            for (int n : new int[] {length + 1, length + 2, 201, 256, 65536, MAX, -1, -2, -length - 1, MIN, MIN + 1}) {
                due("back(" + n + ") of " + length, x.back(n), NONE);
                due("count(5)", x.count(5), length);
            }
            due("back(" + length + ")", x.back(length), 0);
        }
    }

    private static void readingTheTape() {
        SAYS.promise(4, "The tape (empty then, behind a FAULT, too) is the TEXT");
        SumFreeSets x = new SumFreeSets();
        Check.feed(x, "cyclic 3;");
        due("text", x.text(), 3);
        due("empty then", x.count(5), 0);
        due("an empty tape is a TEXT", x.text(), 1);
        Check.feed(x, "cyclic 3;x");
        due("a fault", x.text(), -4 - 9);
        due("empty, too", x.count(5), 0);
        due("nothing goes", x.back(1), NONE);
        Check.feed(x, "cyclic 4;");
        due("nothing is left ahead of it", x.text(), 4);
        String full = "cyclic 16;" + blanks(173) + "set 0 11 14 15 ;\n";
        due("200 bytes", full.length(), 200);
        text(full, 16);
        due("S of 200 bytes", Sentences.told(full).count(2), Sentences.bits(0, 11, 14, 15));
    }

    private static void allAnew() {
        SAYS.promise(4, "all anew: n;");
        SumFreeSets x = Sentences.told("quaternion;cyclic 2;set 1 15;");
        x.subgroups();
        x.classes();
        x.turns();
        x.many(0, NONE);
        x.characters(4);
        x.weigh(4, 9);
        x.keep(0);
        x.keep(2);
        due("n", Check.tell(x, "cyclic 5;"), 5);
        int[] anew = {5, 1, 0, 0, 0, 0, 1, 0, 0, 0, 1, 5};
        for (int what = 0; what < anew.length; what++) {
            due("count(" + what + ")", x.count(what), anew[what]);
        }
        due("subgroups()", x.subgroups(), 2);
        due("classes()", x.classes(), 2);
        due("turns()", x.turns(), 4);
        due("many(0, NONE)", x.many(0, NONE), 7);
        due("characters(4)", x.characters(4), 1);
        due("no act is left", x.undo(), NONE);
        x.become(18);
        x.weigh(1, 0);
        due("the same once more", Check.tell(x, "cyclic 5;"), 5);
        due("S", x.count(2), 0);
        due("WEIGHTS", x.count(11), 5);
        x.become(18);
        due("nothing told", x.text(), 1);
        due("n", x.count(0), 1);
        due("FACTORS", x.count(1), 0);
        due("S", x.count(2), 0);
        SAYS.due("spell()", Check.spelled(x), "");
    }

    private static void anewOfTheSameSize() {
        SAYS.promise(4, "is the TEXT, all anew");
        String[] texts = {
            "cyclic 16;", "cyclic 2;cyclic 2;cyclic 2;cyclic 2;", "quaternion;cyclic 2;", "dihedral 8;",
            "cyclic 2;dihedral 4;",
            "cyclic 4;cyclic 4;", "cyclic 2;cyclic 2;cyclic 2;cyclic 2;", "cyclic 16;", "", "set 0;",
            "dihedral 8;set 15;",
        };
        SumFreeSets x = new SumFreeSets();
        for (String text : texts) {
            Check.tell(x, text);
            SAYS.due("behind others \"" + text + "\"", answers(x), answers(Sentences.told(text)));
        }
    }

    /** What may be kept for a GROUP. */
    private static String answers(SumFreeSets x) {
        int last = 1 << x.count(0) - 1;
        int[] row = {
            x.subgroups(), x.classes(), x.colour(x.count(0) - 1), x.turns(), x.image(last), x.orbit(last),
            x.orbits(0, 2),
            x.characters(4), x.character(4, 1, 1), x.lifted(4), x.many(1, NONE), x.nth(0, 2, 1), x.greatest(), x.kin(),
            x.centre(), x.generator(1), x.best(1), x.inverse(x.count(0) - 1), x.count(1), x.count(2), x.count(10),
        };
        return Arrays.toString(row);
    }

    private static void allElseStays() {
        SAYS.promise(4, "-4 less its FAULT, and all else stays.");
        text("x", -4);
        text(" x", -5);
        text(blanks(199) + "x", -4 - 199);
        text(blanks(190) + "cyclic 16 ", -4 - 200);
        String[] wrong = {"x", "cyclic 2;x", "dihedral 4;set 1 2;set;", "set 0", "quaternion",
            "cyclic 16;set 16;", "cyclic"};
        SumFreeSets x = Sentences.told("dihedral 3;set 1 3;");
        x.weigh(3, 7);
        x.keep(1);
        x.put(5, true);
        x.keep(2);
        String before = Check.state(x);
        for (String text : wrong) {
            SAYS.due("\"" + text + "\"", Check.tell(x, text) <= -4, true);
            SAYS.due("behind \"" + text + "\"", Check.state(x), before);
        }
        due("an act stays", x.undo(), 3);
        due("shelf", x.count(9), 0);
        due("an act stays", x.undo(), 2);
        due("S", x.count(2), Sentences.bits(1, 3));
        due("product", x.product(3, 1), 5);
    }

    private static void rows() {
        SAYS.term("A TEXT: { cyclic N ; | dihedral N ; | quaternion ; } [ set { N } ; ]");
        text("", 1);
        text("set;", 1);
        text("cyclic 2;", 2);
        text("dihedral 1;", 2);
        text("quaternion;", 8);
        text("quaternion;set;", 8);
        text("cyclic 2;cyclic 2;cyclic 2;cyclic 2;", 16);
        text("cyclic 2;dihedral 1;cyclic 2;dihedral 1;set 0 1 2 3 4 5 6 7 8 9 10 11 12 13 14 15;", 16);
        text("quaternion;cyclic 2;set 15;", 16);
        text("cyclic 2;quaternion;set 15;", 16);
        fault(";", 0);
        fault("2;", 0);
        fault("cyclic;", 6);
        fault("dihedral;", 8);
        fault("cyclic 2 3;", 9);
        fault("cyclic set;", 7);
        fault("cyclic 2;;", 9);
        fault("cyclic 2 set;", 9);
        fault("quaternion 8;", 11);
        fault("quaternion;;", 11);
        fault("set 0 set;", 6);
    }

    private static void cyclicBounds() {
        SAYS.term("cyclic 2 .. 16");
        for (int n = 0; n <= 99; n++) {
            text("cyclic " + n + ";", n >= 2 && n <= 16 ? n : -4 - 7);
        }
        text("cyclic 00;", -4 - 7);
        text("cyclic 01;", -4 - 7);
        text("cyclic 02;", 2);
    }

    private static void dihedralBounds() {
        SAYS.term("dihedral 1 .. 8");
        for (int n = 0; n <= 99; n++) {
            text("dihedral " + n + ";", n >= 1 && n <= 8 ? 2 * n : -4 - 9);
        }
        text("dihedral 00;", -4 - 9);
        text("dihedral 01;", 2);
        text("dihedral 08;", 16);
    }

    private static void sizeOfAll() {
        SAYS.term("n of all at most 16");
        for (int a = 2; a <= 16; a++) {
            for (int b = 2; b <= 16; b++) {
                String ahead = "cyclic " + a + ";cyclic ";
                text(ahead + b + ";", a * b <= 16 ? a * b : -4 - ahead.length());
            }
            for (int b = 1; b <= 8; b++) {
                String ahead = "cyclic " + a + ";dihedral ";
                text(ahead + b + ";", 2 * a * b <= 16 ? 2 * a * b : -4 - ahead.length());
            }
        }
        fault("cyclic 2;cyclic 2;cyclic 2;cyclic 2;cyclic 2;", 43);
        fault("dihedral 1;dihedral 1;dihedral 1;dihedral 1;dihedral 1;", 53);
        fault("cyclic 4;cyclic 4;quaternion;", 18);
        text("cyclic 16;set 0 15;", 16);
        text("dihedral 8;set 0 15;", 16);
    }

    private static void elementsOfTheSet() {
        SAYS.term("of set: ELEMENTS of S, each once (none: empty)");
        for (int n = 2; n <= 16; n++) {
            String ahead = "cyclic " + n + ";set ";
            for (int e = 0; e <= 20; e++) {
                text(ahead + e + ";", e < n ? n : -4 - ahead.length());
                if (e < n) {
                    due("S", Sentences.told(ahead + e + ";").count(2), 1 << e);
                    fault(ahead + e + " " + e + ";", ahead.length() + ("" + e).length() + 1);
                }
            }
        }
        text("set 0;", 1);
        due("S", Sentences.told("set 0;").count(2), 1);
        fault("set 1;", 4);
        due("none", Sentences.told("cyclic 3;set;").count(2), 0);
        due("none, a blank", Sentences.told("cyclic 3;set ;").count(2), 0);
        due("in any order", Sentences.told("cyclic 5;set 4 0 2;").count(2), 21);
        due("all", Sentences.told("cyclic 2;set 1 0;").count(2), 3);
    }

    private static void words() {
        SAYS.term("WORDS are small letters as far as they go on");
        fault("cyclicx 2;", 0);
        fault("cycli 2;", 0);
        fault("xyclic 2;", 0);
        fault("xihedral 1;", 0);
        fault("xuaternion;", 0);
        fault("xet;", 0);
        fault("cyclix 2;", 0);
        fault("sex;", 0);
        fault("cyclicset 2;", 0);
        fault("cyclic 2;setset;", 9);
        fault("cyclic 2;se;", 9);
        fault("quaternions;", 0);
        fault("quaternio;", 0);
        fault("dihedra 2;", 0);
        fault("dihedrall 2;", 0);
        fault("a", 0);
        fault("z", 0);
        fault("Cyclic 2;", 0);
        fault("SET;", 0);
        fault("cYclic 2;", 0);
        fault("cyclic 2;setX;", 12);
        fault("quaternionZ;", 10);
        fault("cyclic` 2;", 6);
        fault("cyclic{ 2;", 6);
        fault("set" + (char) ('s' + 128) + ";", 3);
        fault((char) ('s' + 128) + "et;", 0);
    }

    private static void digits() {
        SAYS.term("N digits as far as they go on (one or two, 0s ahead, too)");
        text("cyclic 2;", 2);
        text("cyclic 02;", 2);
        text("cyclic 12;", 12);
        fault("cyclic 002;", 7);
        fault("cyclic 012;", 7);
        fault("cyclic 100;", 7);
        fault("cyclic 0000000000000000000002;", 7);
        fault("cyclic 4294967298;", 7);
        text("dihedral 08;", 16);
        fault("dihedral 008;", 9);
        text("cyclic 10;set 0 01 02 9;", 10);
        text("cyclic 10;set 00;", 10);
        fault("cyclic 10;set 000;", 14);
        fault("cyclic 10;set 001;", 14);
        fault("cyclic 10;set 1 002;", 16);
        fault("cyclic 2/;", 8);
        fault("cyclic 2:;", 8);
        fault("cyclic /2;", 7);
        fault("cyclic :2;", 7);
        fault("cyclic +2;", 7);
        fault("cyclic -2;", 7);
        fault("cyclic 2.0;", 8);
        fault("cyclic 2x;", 8);
        fault("cyclic 2" + (char) ('2' + 128) + ";", 8);
    }

    private static void blanks() {
        SAYS.term("Blanks (32), line ends (10) where one likes");
        text(" \n", 1);
        text("\n \n cyclic \n 2 \n ; \n dihedral\n\n1\n;\n set \n 3 \n 0 \n ; \n ", 4);
        due("S", Sentences.told("\n cyclic\n4\n;\nset\n3\n0\n;\n").count(2), 9);
        text("quaternion ;", 8);
        text("quaternion\n;", 8);
        text("set\n;\n", 1);
        for (int sign : new int[] {0, 9, 11, 12, 13, 31, 33, 127, 128 + 32, 128 + 10, 255}) {
            fault((char) sign + "cyclic 2;", 0);
            fault("cyclic" + (char) sign + "2;", 6);
            fault("cyclic 2" + (char) sign + ";", 8);
            fault("cyclic 2;" + (char) sign, 9);
            fault("cyclic 2;set 0" + (char) sign + "1;", 14);
            fault("cyclic 2;set;" + (char) sign, 13);
        }
        fault("cyc lic 2;", 0);
        fault("cyclic 1 6;", 7);
        fault("quater nion;", 0);
    }

    private static void blanksBetween() {
        SAYS.term("one at least between two WORDS, two N, a WORD and N (else the second one can't stand there)");
        fault("cyclic2;", 6);
        fault("cyclic02;", 6);
        fault("dihedral2;", 8);
        fault("cyclic 2;set0;", 12);
        fault("cyclic 2;set0 1;", 12);
        fault("cyclic 2;set0 9;", 12);
        fault("cyclic 2;set 0set;", 14);
        fault("cyclic 11;set 110;", 14);
        text("cyclic 11;set 1 10;", 11);
        text("cyclic 12;set 11 0;", 12);
        text("cyclic\n2;set\n0\n1;", 2);
        text("cyclic 2;set;", 2);
        text("cyclic 2;quaternion;set;", 16);
    }

    private static void faultsOfNumbers() {
        SAYS.term("(of a WORD, N its first one: also an N out of bounds, of three digits or more, by which n "
            + "is above 16");
        fault("cyclic 17;", 7);
        fault("cyclic   17;", 9);
        fault("cyclic 1;", 7);
        fault("cyclic 99;", 7);
        fault("dihedral 0;", 9);
        fault("dihedral 9;", 9);
        fault("dihedral 16;", 9);
        fault("cyclic 123;", 7);
        fault("cyclic 016;", 7);
        fault("cyclic 3;cyclic 6;", 16);
        fault("cyclic 3;cyclic 06;", 16);
        fault("cyclic 3;dihedral 3;", 18);
        fault("cyclic 9;cyclic 2;", 16);
        fault("cyclic 16;cyclic 2;", 17);
        fault("cyclic 16;dihedral 1;", 19);
        fault("cyclic 2;cyclic 2;cyclic 5;", 25);
        fault("cyclicc 2;", 0);
        fault("cyclic 2; cyclicc 2;", 10);
        fault("  foo", 2);
    }

    private static void faultsOfTheSet() {
        SAYS.term("of set: n or more, told twice");
        fault("cyclic 5;set 5;", 13);
        fault("cyclic 5;set 6;", 13);
        fault("cyclic 5;set 4 5;", 15);
        fault("cyclic 16;set 16;", 14);
        fault("cyclic 16;set 32;", 14);
        fault("cyclic 16;set 99;", 14);
        fault("cyclic 5;set 1 1;", 15);
        fault("cyclic 5;set 1 01;", 15);
        fault("cyclic 5;set 00 4 0;", 18);
        fault("cyclic 16;set 15 14 15;", 20);
        fault("set 0 0;", 6);
        fault("set 0 1;", 6);
    }

    private static void faultsOfQuaternion() {
        SAYS.term("quaternion, by which n is above 16, at it");
        text("cyclic 2;quaternion;", 16);
        text("quaternion;dihedral 1;", 16);
        fault("cyclic 3;quaternion;", 9);
        fault("cyclic 3; quaternion", 10);
        fault("cyclic 3;quaternion 2", 9);
        fault("dihedral 2;\nquaternion;", 12);
        fault("cyclic 16;quaternion;", 10);
        fault("quaternion;quaternion;", 11);
        fault("cyclic 2;quaternion;quaternion;", 20);
        fault("quaternion;cyclic 3;", 18);
    }

    private static void faultsBehindTheSet() {
        SAYS.term("anything behind set");
        fault("set;set;", 4);
        fault("set;;", 4);
        fault("set; 0", 5);
        fault("set 0;cyclic 2;", 6);
        fault("cyclic 2;set 0; \nquaternion;", 17);
        fault("cyclic 2;set;dihedral 1;", 13);
        fault("set;x", 4);
        text("set; \n ", 1);
    }

    private static void faultsAtTheEnd() {
        SAYS.term("the TEXT's length, if it ends too early)");
        for (String text : new String[] {
            "cyclic", "cyclic ", "cyclic 2", "cyclic 2 ", "cyclic 12", "dihedral", "dihedral\n", "dihedral 1",
            "quaternion",
            "quaternion  ", "set", "set ", "set 0", "set 0 ", "cyclic 2;set", "cyclic 2;set 0 1", "cyclic 2;set 1 0 \n",
            "cyclic 2;quaternion", "cyclic 2;cyclic", blanks(197) + "set", blanks(192) + "cyclic 2",
        }) {
            fault(text, text.length());
        }
        // such WORDS can't stand there, however the TEXT went on
        fault("cycl", 0);
        fault("cyclic 2;s", 9);
    }

    private static void theFirstFault() {
        SAYS.term("FAULT: the first byte that can't stand there");
        fault("x y z", 0);
        fault("cyclic 17 x", 7);
        fault("cyclic 2;set 2 2;x", 13);
        fault("cyclic 3;cyclic 6 cyclic", 16);
        fault("cyclic 2;set 0 0 5;", 15);
        fault("cyclic 2;set 5 0 0;", 13);
        fault("quaternion quaternion;", 11);
        fault("cyclic 9;set 8 9", 15);
    }
}
