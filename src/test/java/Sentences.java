import java.io.IOException;
import java.nio.file.Files;
import java.nio.file.Path;
import java.util.Set;
import java.util.TreeSet;

/** Sentences of the document that name a boundary: each is quoted, and asked by itself. */
final class Sentences {
    static final int NONE = SumFreeSets.NONE;
    static final int MIN = Integer.MIN_VALUE;
    static final int MAX = Integer.MAX_VALUE;

    private static final Path DOCUMENT = Path.of("..", "shared", "DOC.md");
    /** Groups of 1, 2, 5, 6, 8, 16 elements: the least, the greatest, rings, and such as are none. */
    private static final String[] TEXTS = {
        "", "cyclic 2;", "cyclic 5;set 1 4;", "dihedral 3;set 3;", "quaternion;set 1 2 3;", "cyclic 16;set 1;",
        "cyclic 2;dihedral 4;set 0 15;",
    };

    private final Check check = new Check();
    private final Set<Integer> promises = new TreeSet<>();
    private final String document = read();
    private String quoted = "";
    private int sentences = 0;
    private int askedBefore = 0;

    /** A call of one number; what else it takes is set. */
    interface Call {
        int of(SumFreeSets x, int value);
    }

    /** Begins a sentence of the terms, told ahead of the promises. */
    void term(String words) {
        begin("terms: " + words, "## Terms", words);
    }

    /** Begins a sentence that stands ahead of the terms. */
    void aheadOfTerms(String words) {
        begin("ahead of the terms: " + words, "# SumFreeSets", words);
    }

    void promise(int number, String words) {
        promises.add(number);
        begin("promise " + number + ": " + words, "## Promise " + number + ":", words);
    }

    private void begin(String about, String head, String words) {
        askedSomething();
        check.about("quotes");
        check.due("'" + words + "' stands under " + head, stands(head, words), true);
        check.about(about);
        quoted = about;
        askedBefore = check.asked();
        sentences++;
    }

    private void askedSomething() {
        check.due("a sentence asks something: " + quoted, sentences == 0 || check.asked() > askedBefore, true);
    }

    /** Without the document only the quotes are not looked at. */
    private boolean stands(String head, String words) {
        if (document.isEmpty()) {
            return true;
        }
        int start = document.indexOf(head);
        int end = start < 0 ? start : document.indexOf("## Promise", start + head.length());
        if (start >= 0 && end < 0) {
            end = document.length();
        }
        return start >= 0 && document.substring(start, end).contains(words);
    }

    private static String read() {
        try {
            return Files.exists(DOCUMENT) ? Files.readString(DOCUMENT).replaceAll("\\s+", " ") : "";
        } catch (IOException unread) {
            return "";
        }
    }

    void due(String call, long got, long want) {
        check.due(call, got, want);
    }

    void due(String call, boolean got, boolean want) {
        check.due(call, got, want);
    }

    void due(String call, String got, String want) {
        check.due(call, got, want);
    }

    /** Ends the program; each promise from the first to the last must have had a sentence. */
    void end(int first, int last) {
        askedSomething();
        check.about("promises");
        for (int number = first; number <= last; number++) {
            check.due("promise " + number + " has a sentence", promises.contains(number), true);
        }
        System.out.print(sentences + " sentences, ");
        check.end();
    }

    static int bits(int... elements) {
        return Check.bits(elements);
    }

    static SumFreeSets told(String text) {
        return Check.told(text);
    }

    /** What text() answers to this text, told to a new object. */
    static int answer(String text) {
        return Check.tell(new SumFreeSets(), text);
    }

    /** Below 0, an ELEMENT that is not there: NONE, and nothing changes. The empty SET and all are within bounds. */
    void setOutOfBounds(Call call) {
        for (String text : TEXTS) {
            int n = told(text).count(0);
            int over = 1 << n;
            refuses(text, call, -1, -2, -over, MIN, MIN | 1, MIN | over, over, over | 1, over + over - 1, over << 1,
                1 << 30, MAX);
            takes(text, call, 0, over - 1);
        }
    }

    /** No such ELEMENT: NONE, and nothing changes. The first one and the last one are there. */
    void noSuchElement(Call call) {
        for (String text : TEXTS) {
            int n = told(text).count(0);
            refuses(text, call, -1, -2, -16, -32, -31, MIN, MIN + 1, n, n + 1, n + 16, 16, 17, 32, 33, 31, 64, 65536,
                MAX);
            takes(text, call, 0, n - 1);
        }
    }

    /** Numbers from the first to the last one are answered, others are NONE, and nothing changes. */
    void onlyFromTo(int first, int last, Call call) {
        for (String text : TEXTS) {
            refuses(text, call, first - 1, first - 2, first - 16, first - 32, first - 256, MIN, MIN + 1, last + 1,
                last + 2, last + 16, last + 32, last + 256, MAX - 1, MAX);
            for (int value = first; value <= last; value++) {
                takes(text, call, value);
            }
        }
    }

    /** Numbers from the first one on are answered, those below it are NONE, and nothing changes. */
    void onlyFrom(int first, Call call) {
        for (String text : TEXTS) {
            refuses(text, call, first - 1, first - 2, first - 16, first - 32, -65536, MIN, MIN + 1);
            takes(text, call, first, first + 1, 15, 16, 17, 31, 32, 33, 65536, MAX - 1, MAX);
        }
    }

    void refuses(String text, Call call, int... values) {
        SumFreeSets x = told(text);
        String before = Check.state(x);
        for (int value : values) {
            due("\"" + text + "\", " + value, call.of(x, value), NONE);
        }
        due("\"" + text + "\", nothing changes", Check.state(x), before);
    }

    private void takes(String text, Call call, int... values) {
        SumFreeSets x = told(text);
        for (int value : values) {
            due("\"" + text + "\", " + value + " is not refused", call.of(x, value) != NONE, true);
        }
    }

    /** Asks that a call is NONE and is no ACT: nothing changes, and nothing more can be undone. */
    void refused(String call, SumFreeSets x, Call asked) {
        String before = Check.state(x);
        due(call, asked.of(x, 0), NONE);
        due(call + ": nothing changes", Check.state(x), before);
    }
}
