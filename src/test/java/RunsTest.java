import java.lang.reflect.InvocationTargetException;
import java.lang.reflect.Method;
import java.lang.reflect.Modifier;
import java.util.ArrayList;
import java.util.Arrays;
import java.util.Comparator;
import java.util.List;
import java.util.Random;
import java.util.stream.IntStream;

/**
 * Whole lives of objects: texts, acts and questions in any order, each answer compared with the document's face said
 * plainly, so that nothing that one call has found or kept may show in another one's answer.
 */
public final class RunsTest {
    private static final int CALLS = 512;
    private static final int[] FAR = {
        Integer.MIN_VALUE, -65536, -17, -3, -2, -1, 16, 17, 31, 32, 99, 100, 65535, 65536, Integer.MAX_VALUE,
    };
    private static final List<String> ACTS = List.of("put", "become", "fill", "thin", "shift", "invert", "turn", "weigh",
        "keep", "take", "undo");

    private final Check check = new Check();
    private final List<List<String>> rows = Plain.allFactors();
    private final List<Method> acts = new ArrayList<>();
    private final List<Method> others = new ArrayList<>();
    private final SumFreeSets x = new SumFreeSets();
    private final Model model = new Model();
    private final int number;
    private final Random random;
    private int calls = 0;

    private RunsTest(int number) {
        this.number = number;
        random = new Random(number);
        Method[] all = SumFreeSets.class.getDeclaredMethods();
        Arrays.sort(all, Comparator.comparing(Method::getName));
        for (Method method : all) {
            if (Modifier.isPublic(method.getModifiers())) {
                (ACTS.contains(method.getName()) ? acts : others).add(method);
            }
        }
    }

    public static void main(String[] args) {
        int runs = Plain.allFactors().size();
        long right = IntStream.range(0, runs).parallel().filter(number -> new RunsTest(number).run()).count();
        Check all = new Check();
        all.due("runs that are as due", right, runs);
        all.end();
    }

    private boolean run() {
        tell(textOf(rows.get(number)));
        // half a life with one group, half of it with another, and sometimes one that is told with a fault
        int second = CALLS / 2 + random.nextInt(50);
        while (calls < CALLS - 30 && check.isRightSoFar()) {
            if (calls >= second) {
                tell(textOf(rows.get(random.nextInt(rows.size()))));
                second = CALLS;
            } else if (random.nextInt(100) == 0) {
                tell(textOf(rows.get(random.nextInt(rows.size()))) + (random.nextBoolean() ? "x" : "set 16;"));
            }
            List<Method> chosen = random.nextInt(5) < 2 ? acts : others;
            Method call = chosen.get(random.nextInt(chosen.size()));
            // a tape that is not a text would leave nothing but the group at hand, an empty one but the least
            if (!call.getName().equals("text")) {
                ask(call.getName(), valuesFor(call));
            }
        }
        return check.isRight();
    }

    private String textOf(List<String> row) {
        StringBuilder text = new StringBuilder(String.join(random.nextBoolean() ? "" : " ", row));
        if (random.nextBoolean()) {
            int n = new Plain(row).n;
            text.append("set");
            for (int e = 0; e < n; e++) {
                text.append(random.nextInt(3) == 0 ? " " + e : "");
            }
            text.append(";");
        }
        return text.toString();
    }

    private void tell(String text) {
        ask("back", model.count(5));
        for (int start = 0; start < text.length(); start += 20) {
            Object[] words = new Object[5];
            for (int i = 0; i < 5; i++) {
                words[i] = fourOf(text, start + 4 * i);
            }
            ask("feed", words);
        }
        ask("back", Math.floorMod(-text.length(), 20));
        ask("text");
    }

    private static int fourOf(String text, int start) {
        int word = 0;
        for (int i = start; i < start + 4; i++) {
            word = word << 8 | (i < text.length() ? text.charAt(i) : '#');
        }
        return word;
    }

    private void ask(String name, Object... values) {
        calls++;
        check.about("run " + number + ", call " + calls + ", \"" + model.group().text + "\", S " + model.count(2));
        check.due(name + Arrays.toString(values), answer(x, name, values), answer(model, name, values));
    }

    private static int answer(Object asked, String name, Object... values) {
        Class<?>[] types = new Class<?>[values.length];
        for (int i = 0; i < types.length; i++) {
            types[i] = values[i] instanceof Boolean ? boolean.class : int.class;
        }
        try {
            Object answer = asked.getClass().getMethod(name, types).invoke(asked, values);
            return answer instanceof Boolean so ? so ? 1 : 0 : (Integer) answer;
        } catch (InvocationTargetException thrown) {
            throw new IllegalStateException(name + Arrays.toString(values) + " threw", thrown.getCause());
        } catch (ReflectiveOperationException missing) {
            throw new IllegalStateException(name + " is not there", missing);
        }
    }

    private Object[] valuesFor(Method call) {
        Class<?>[] types = call.getParameterTypes();
        Object[] values = new Object[types.length];
        for (int i = 0; i < values.length; i++) {
            values[i] = types[i] == boolean.class ? (Object) random.nextBoolean() : (Object) number();
        }
        return values;
    }

    /** Sets, elements, kinds and sizes alike: most calls take either small numbers or sets. */
    private int number() {
        Plain group = model.group();
        return switch (random.nextInt(12)) {
            case 0 -> FAR[random.nextInt(FAR.length)];
            case 1, 2 -> random.nextInt(1 << group.n);
            case 3 -> group.free.get(random.nextInt(group.free.size()));
            case 4 -> group.span(random.nextInt(1 << group.n) & random.nextInt(1 << group.n));
            case 5 -> model.count(2);
            case 6, 7 -> random.nextInt(group.n);
            default -> random.nextInt(4);
        };
    }
}
