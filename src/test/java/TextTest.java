import java.util.Random;

/** Texts, right ones and spoilt ones, compared with those read by tokens. */
public final class TextTest {
    private static final int TEXTS = 60000;
    private static final int MOST = 200;
    private static final String[] PIECES = {
        "cyclic", "dihedral", "quaternion", "set", ";", ";", ";", " ", " ", " ", "\n", "0", "1", "2", "3", "4", "5", "7",
        "8", "9", "10", "15", "16", "17", "00", "01", "07", "002", "100", "cycli", "cyclics", "sets", "Set", "x", "-1",
        "\t", "\r", "\u0000", "\u00ff", ",", "cyclic 2;", "cyclic 4;", "dihedral 1;", "dihedral 2;", "quaternion;",
        "set 0 1;", "set;", "cyclic 2 ;", "`", "{", "/", ":",
    };

    private final Check check = new Check();
    private final Random random = new Random(20261118);
    private int right = 0;

    public static void main(String[] args) {
        TextTest test = new TextTest();
        SumFreeSets x = Check.told("dihedral 3;set 1 3;");
        for (int i = 0; i < TEXTS; i++) {
            // an object is used for at most 512 calls
            if (i % 2 == 0) {
                x = Check.told("dihedral 3;set 1 3;");
            }
            String text = i % 3 == 0 ? test.pieced() : i % 3 == 1 ? test.spoilt(test.good()) : test.good();
            test.compare(x, text.length() > MOST ? text.substring(0, MOST) : text);
        }
        test.check.about("texts");
        test.check.due("enough right ones", test.right > TEXTS / 4, true);
        test.check.due("enough wrong ones", test.right < TEXTS * 3 / 4, true);
        test.check.end();
    }

    private void compare(SumFreeSets x, String text) {
        check.about("\"" + text + "\"");
        PlainText due = new PlainText(text);
        String before = Check.state(x);
        check.due("fed", Check.feed(x, text), text.length());
        int answer = x.text();
        check.due("count(5)", x.count(5), 0);
        if (due.fault >= 0) {
            check.due("text()", answer, -4 - due.fault);
            check.due("state", Check.state(x), before);
            return;
        }
        right++;
        check.due("text()", answer, due.size);
        check.due("count(0)", x.count(0), due.size);
        check.due("count(1)", x.count(1), due.factors.size());
        check.due("count(2)", x.count(2), due.set);
        check.due("spell()", Check.spelled(x), new Plain(due.factors).spelled(due.set));
    }

    private String pieced() {
        StringBuilder text = new StringBuilder();
        int pieces = random.nextInt(12);
        for (int i = 0; i < pieces; i++) {
            text.append(PIECES[random.nextInt(PIECES.length)]);
        }
        return text.toString();
    }

    private String good() {
        StringBuilder text = new StringBuilder(blanks(0));
        int size = 1;
        for (int i = random.nextInt(4); i > 0; i--) {
            int kind = random.nextInt(5);
            int number = kind == 0 ? 8 : kind == 1 ? 1 + random.nextInt(8) : 2 + random.nextInt(kind == 2 ? 15 : 4);
            int elements = kind == 1 ? 2 * number : number;
            if (size * elements <= 16 || random.nextInt(8) == 0) {
                size *= elements;
                text.append(kind == 0 ? "quaternion" : kind == 1 ? "dihedral" : "cyclic");
                text.append(kind == 0 ? "" : blanks(1) + number(number));
                text.append(blanks(0)).append(';').append(blanks(0));
            }
        }
        if (random.nextInt(3) > 0) {
            text.append("set");
            for (int e = 0; e < size; e++) {
                if (random.nextInt(3) == 0) {
                    text.append(blanks(1)).append(number(e));
                }
            }
            text.append(blanks(0)).append(';').append(blanks(0));
        }
        return text.toString();
    }

    private String number(int number) {
        return number < 10 && random.nextInt(4) == 0 ? "0" + number : "" + number;
    }

    private String blanks(int least) {
        StringBuilder row = new StringBuilder();
        for (int i = least + (random.nextInt(4) == 0 ? 1 + random.nextInt(2) : 0); i > 0; i--) {
            row.append(random.nextInt(4) == 0 ? '\n' : ' ');
        }
        return row.toString();
    }

    private String spoilt(String text) {
        StringBuilder row = new StringBuilder(text);
        int at = random.nextInt(row.length() + 1);
        switch (random.nextInt(4)) {
            case 0 -> row.setLength(at);
            case 1 -> row.insert(at, PIECES[random.nextInt(PIECES.length)]);
            case 2 -> row.insert(at, (char) random.nextInt(256));
            default -> row.replace(Math.max(0, at - 1), at, "");
        }
        return row.toString();
    }
}
