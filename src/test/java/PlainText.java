import java.util.ArrayList;
import java.util.List;
import java.util.regex.Matcher;
import java.util.regex.Pattern;

/** A TEXT read by tokens, as the document's words say it, to compare with. */
final class PlainText {
    private static final Pattern TOKEN = Pattern.compile("[a-z]+|[0-9]+|[ \n]+|(?s).");

    final List<String> factors = new ArrayList<>();
    int size = 1;
    int set = 0;
    /** NONE, or the FAULT. */
    int fault = -1;

    private final String text;
    private final List<String> tokens = new ArrayList<>();
    private final List<Integer> places = new ArrayList<>();
    private final List<Boolean> blankAhead = new ArrayList<>();
    private int next = 0;

    PlainText(String text) {
        this.text = text;
        Matcher matcher = TOKEN.matcher(text);
        boolean blank = true;
        while (matcher.find()) {
            String token = matcher.group();
            if (token.isBlank() && (token.charAt(0) == ' ' || token.charAt(0) == '\n')) {
                blank = true;
            } else {
                tokens.add(token);
                places.add(matcher.start());
                blankAhead.add(blank);
                blank = false;
            }
        }
        read();
    }

    private void read() {
        while (fault < 0 && next < tokens.size()) {
            String word = tokens.get(next);
            int place = places.get(next);
            next++;
            switch (word) {
                case "cyclic" -> readFactor(word, 2, 16, 1);
                case "dihedral" -> readFactor(word, 1, 8, 2);
                case "quaternion" -> {
                    if (size * 8 > 16) {
                        fault = place;
                    } else {
                        size *= 8;
                        factors.add("quaternion;");
                        readEnd();
                    }
                }
                case "set" -> {
                    readSet();
                    if (fault < 0 && next < tokens.size()) {
                        fault = places.get(next);
                    }
                }
                default -> fault = place;
            }
        }
    }

    private void readFactor(String word, int low, int high, int times) {
        int place = place();
        int number = readNumber();
        if (fault < 0 && (number < low || number > high || size * number * times > 16)) {
            fault = place;
        }
        if (fault < 0) {
            size *= number * times;
            factors.add(word + " " + number + ";");
            readEnd();
        }
    }

    private void readSet() {
        while (fault < 0) {
            if (next < tokens.size() && tokens.get(next).equals(";")) {
                next++;
                return;
            }
            int place = place();
            int e = readNumber();
            if (fault < 0 && (e >= size || (set >> e & 1) == 1)) {
                fault = place;
            }
            set |= fault < 0 ? 1 << e : 0;
        }
    }

    private int place() {
        return next < tokens.size() ? places.get(next) : text.length();
    }

    private int readNumber() {
        if (next >= tokens.size() || !tokens.get(next).matches("[0-9]{1,2}") || !blankAhead.get(next)) {
            fault = place();
            return -1;
        }
        return Integer.parseInt(tokens.get(next++));
    }

    private void readEnd() {
        if (next < tokens.size() && tokens.get(next).equals(";")) {
            next++;
        } else {
            fault = place();
        }
    }
}
