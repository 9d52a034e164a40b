import java.io.IOException;
import java.lang.reflect.Method;
import java.nio.file.Files;
import java.nio.file.Path;
import java.util.regex.Matcher;
import java.util.regex.Pattern;

/** The calls that README.md shows, each with the answer that stands behind it. */
public final class ReadmeTest {
    private static final Pattern CALL = Pattern.compile("(?m)^x\\.(\\w+)\\((.*?)\\);\\s*// (-?\\w+)");
    private static final int FEWEST = 10;

    public static void main(String[] args) throws IOException, ReflectiveOperationException {
        Check check = new Check();
        check.about("README.md");
        SumFreeSets x = new SumFreeSets();
        Matcher rows = CALL.matcher(Files.readString(Path.of("README.md")));
        int found = 0;
        while (rows.find()) {
            found++;
            check.due(rows.group(1) + "(" + rows.group(2) + ")", answer(x, rows.group(1), rows.group(2)), rows.group(3));
        }
        check.due("enough calls", found >= FEWEST, true);
        check.end();
    }

    private static String answer(SumFreeSets x, String name, String told) throws ReflectiveOperationException {
        String[] words = told.isEmpty() ? new String[0] : told.split(", ");
        Object[] values = new Object[words.length];
        Class<?>[] types = new Class<?>[words.length];
        for (int i = 0; i < words.length; i++) {
            boolean flag = words[i].equals("true") || words[i].equals("false");
            types[i] = flag ? boolean.class : int.class;
            values[i] = flag ? (Object) Boolean.valueOf(words[i]) : (Object) Integer.decode(words[i]);
        }
        Method call = SumFreeSets.class.getMethod(name, types);
        return String.valueOf(call.invoke(x, values));
    }
}
