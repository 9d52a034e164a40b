import java.lang.reflect.InvocationTargetException;
import java.lang.reflect.Method;
import java.lang.reflect.Modifier;
import java.util.ArrayList;
import java.util.Comparator;
import java.util.List;
import java.util.Random;

/** Any call with any arguments in any state ends without a throw, and the same calls give the same answers. */
public final class AnyCallTest {
    // with those that tell the text no more than 512
    private static final int CALLS = 490;
    private static final int[] EDGES = {
        Integer.MIN_VALUE, Integer.MIN_VALUE + 1, -65537, -33, -32, -17, -4, -3, -2, -1, 0, 1, 2, 3, 4, 5, 7, 8, 9, 12, 13,
        15, 16, 17, 31, 32, 33, 63, 64, 99, 100, 127, 128, 199, 200, 201, 255, 256, 32767, 32768, 65535, 65536, 65537,
        0x3b3b3b3b, 0x20202020, Integer.MAX_VALUE - 1, Integer.MAX_VALUE,
    };

    public static void main(String[] args) throws Exception {
        Check check = new Check();
        List<Method> calls = new ArrayList<>();
        for (Method method : SumFreeSets.class.getDeclaredMethods()) {
            if (Modifier.isPublic(method.getModifiers())) {
                calls.add(method);
            }
        }
        calls.sort(Comparator.comparing(Method::getName));
        List<List<String>> rows = Plain.allFactors();
        for (int i = 0; i < rows.size(); i++) {
            String text = String.join("", rows.get(i));
            check.about(text);
            check.due("the same answers", run(calls, text, i), run(calls, text, i));
        }
        check.end();
    }

    /** The answers of one object's whole life, folded to one number. */
    private static long run(List<Method> calls, String text, int seed) throws Exception {
        Random random = new Random(seed);
        SumFreeSets x = Check.told(text);
        int n = x.count(0);
        long folded = 0;
        for (int i = 0; i < CALLS; i++) {
            Method call = calls.get(random.nextInt(calls.size()));
            // text() would soon leave nothing but the smallest group
            if (!call.getName().equals("text") || random.nextInt(50) == 0) {
                Object answer = invoke(call, x, n, random);
                int number = answer instanceof Boolean b ? b ? 1 : 0 : (Integer) answer;
                n = call.getName().equals("text") && number > 0 ? number : n;
                folded = folded * 31 + number;
            }
        }
        return folded;
    }

    private static Object invoke(Method call, SumFreeSets x, int n, Random random) throws Exception {
        Class<?>[] types = call.getParameterTypes();
        Object[] values = new Object[types.length];
        for (int i = 0; i < types.length; i++) {
            values[i] = types[i] == boolean.class ? (Object) random.nextBoolean() : (Object) number(n, random);
        }
        try {
            return call.invoke(x, values);
        } catch (InvocationTargetException thrown) {
            System.out.println(call.getName() + java.util.Arrays.toString(values) + " threw " + thrown.getCause());
            System.exit(1);
            return null;
        }
    }

    private static int number(int n, Random random) {
        return switch (random.nextInt(4)) {
            case 0 -> EDGES[random.nextInt(EDGES.length)];
            case 1 -> random.nextInt();
            case 2 -> random.nextInt(1 << n);
            default -> random.nextInt(5) - 1;
        };
    }
}
