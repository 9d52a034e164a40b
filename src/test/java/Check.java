/** What the tests share: a count of wrong answers, and texts brought to the tape. */
final class Check {
    private static final int FED = 20;
    private static final int SHOWN = 50;

    private int asked;
    private int wrong;
    private String about = "";

    /** Names what the next answers are about. */
    void about(String words) {
        about = words;
    }

    void due(String call, long got, long want) {
        asked++;
        if (got != want) {
            wrong++;
            if (wrong <= SHOWN) {
                System.out.println(about + ": " + call + " answered " + got + ", due is " + want);
            }
        }
    }

    void due(String call, boolean got, boolean want) {
        due(call, got ? 1 : 0, want ? 1 : 0);
    }

    void due(String call, String got, String want) {
        due(call + " \"" + got + "\" (due \"" + want + "\")", got.equals(want), true);
    }

    int asked() {
        return asked;
    }

    boolean isRightSoFar() {
        return wrong == 0;
    }

    boolean isRight() {
        return wrong == 0 && asked > 0;
    }

    /** Ends the program, with exit code 1 if an answer was wrong. */
    void end() {
        System.out.println(asked + " answers asked, " + wrong + " wrong");
        System.exit(isRight() ? 0 : 1);
    }

    /** Puts just these characters behind the tape: how many bytes it has. */
    static int feed(SumFreeSets x, String text) {
        int length = x.count(5);
        for (int start = 0; start < text.length(); start += FED) {
            int[] words = new int[5];
            for (int i = 0; i < FED; i++) {
                int sign = start + i < text.length() ? text.charAt(start + i) : ' ';
                words[i / 4] = words[i / 4] << 8 | sign & 255;
            }
            length = x.feed(words[0], words[1], words[2], words[3], words[4]);
            if (length == SumFreeSets.NONE) {
                return length;
            }
            if (start + FED > text.length()) {
                length = x.back(start + FED - text.length());
            }
        }
        return length;
    }

    /** What text() answers to this text alone. */
    static int tell(SumFreeSets x, String text) {
        x.back(x.count(5));
        feed(x, text);
        return x.text();
    }

    static SumFreeSets told(String text) {
        SumFreeSets x = new SumFreeSets();
        int n = tell(x, text);
        if (n < 1) {
            throw new IllegalStateException("a test's own text has a fault: " + text);
        }
        return x;
    }

    static String spelled(SumFreeSets x) {
        StringBuilder text = new StringBuilder();
        int length = x.spell(SumFreeSets.NONE);
        for (int i = 0; i < length; i++) {
            text.append((char) x.spell(i));
        }
        return text.toString();
    }

    static String reported(SumFreeSets x) {
        StringBuilder text = new StringBuilder();
        int length = x.report(SumFreeSets.NONE);
        for (int i = 0; i < length; i++) {
            text.append((char) x.report(i));
        }
        return text.toString();
    }

    /** Whether an object stands as before a call that changes nothing: all that can be asked of its state. */
    static String state(SumFreeSets x) {
        StringBuilder text = new StringBuilder();
        for (int what = 0; what <= 11; what++) {
            text.append(x.count(what)).append(' ');
        }
        return text.append(x.best(0)).append(' ').append(x.best(1)).append(' ').append(spelled(x)).toString();
    }

    /** A set told by its elements. */
    static int bits(int... elements) {
        int set = 0;
        for (int e : elements) {
            set |= 1 << e;
        }
        return set;
    }
}
