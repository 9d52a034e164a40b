import java.lang.reflect.Constructor;
import java.lang.reflect.Field;
import java.lang.reflect.Method;
import java.lang.reflect.Modifier;
import java.nio.file.Files;
import java.nio.file.Path;
import java.util.ArrayList;
import java.util.Arrays;
import java.util.List;
import java.util.Set;
import java.util.TreeSet;
import java.util.regex.Matcher;
import java.util.regex.Pattern;

/** The public face, and those rules of LANGUAGE.md that can be seen from outside or in the source's words. */
public final class FaceTest {
    private static final String SOURCE = "src/main/java/SumFreeSets.java";
    private static final String[] FACE = {
        "int feed(int,int,int,int,int)", "int back(int)", "int text()", "boolean put(int,boolean)", "int become(int)",
        "int fill()", "int thin()", "int shift(int,boolean)", "int invert()", "int turn(int)", "int weigh(int,int)",
        "int keep(int)", "int take(int)", "int undo()", "int product(int,int)", "int inverse(int)", "int orderOf(int)",
        "int centre()", "int span(int)", "int subgroups()", "int coset(int,int,boolean)", "int generator(int)",
        "int alike(int)", "int kin()", "int normal(int)", "int power(int,int)", "int covers(int)", "int is(int,int)",
        "int triples(int)", "int triple(int,int)", "int products(int,int)", "int quotients(int)", "int even(int)",
        "int copies(int)", "int open(int)", "int period(int,boolean)", "int ways(int,int)", "int energy(int)",
        "int many(int,int)", "int greatest()", "int nth(int,int,int)", "int within(int,boolean)",
        "int nearest(int,int,int)", "int best(int)", "int mean(int,boolean)", "int usual(int)", "int parts(int)",
        "int classes()", "int colour(int)", "int turns()", "int image(int)", "int orbit(int)", "int orbits(int,int)",
        "int characters(int)", "int character(int,int,int)", "int lift(int,int,int)", "int middle(int)",
        "int lifted(int)", "int ints(int,int)", "int spell(int)", "int report(int)", "int count(int)",
    };
    private static final String[] BANNED = {
        "throw", "throws", "try", "catch", "synchronized", "assert", "->", "::", "Exact(", "System.out", "Random",
        "hashCode", "protected", "package ", "native", "volatile",
    };

    private static final List<String> WRONG = new ArrayList<>();

    public static void main(String[] args) throws Exception {
        checkClass();
        checkMethods();
        checkFields();
        checkNested();
        checkSource();
        WRONG.forEach(System.out::println);
        System.out.println(WRONG.isEmpty() ? "the face is as due" : WRONG.size() + " faults of the face");
        System.exit(WRONG.isEmpty() ? 0 : 1);
    }

    private static void due(boolean holds, String what) {
        if (!holds) {
            WRONG.add(what);
        }
    }

    private static void checkClass() {
        int modifiers = SumFreeSets.class.getModifiers();
        due(Modifier.isPublic(modifiers) && Modifier.isFinal(modifiers), "the class is not public and final");
        Constructor<?>[] made = SumFreeSets.class.getDeclaredConstructors();
        due(made.length == 1 && Modifier.isPublic(made[0].getModifiers()) && made[0].getParameterCount() == 0,
            "the constructor is not the one that is due");
        due(SumFreeSets.NONE == -1, "NONE is not -1");
    }

    private static void checkMethods() {
        Set<String> face = new TreeSet<>(Arrays.asList(FACE));
        Set<String> names = new TreeSet<>();
        Set<String> found = new TreeSet<>();
        for (Method method : SumFreeSets.class.getDeclaredMethods()) {
            if (Modifier.isPublic(method.getModifiers())) {
                names.add(method.getName());
                found.add(told(method));
            }
        }
        due(face.equals(found), "the public methods are " + found);
        for (Method method : SumFreeSets.class.getDeclaredMethods()) {
            due(Modifier.isPublic(method.getModifiers())
                || Modifier.isPrivate(method.getModifiers()) && !names.contains(method.getName()),
                "a method that is not public: " + told(method));
            due(method.getParameterCount() <= 7, "more than seven parameters: " + told(method));
        }
        for (Class<?> inner : SumFreeSets.class.getDeclaredClasses()) {
            for (Method method : inner.getDeclaredMethods()) {
                due(!names.contains(method.getName()), "a method inside bears a public name: " + told(method));
                due(method.getParameterCount() <= 7, "more than seven parameters: " + told(method));
            }
        }
    }

    private static String told(Method method) {
        StringBuilder text = new StringBuilder();
        text.append(method.getReturnType().getSimpleName()).append(' ').append(method.getName()).append('(');
        Class<?>[] types = method.getParameterTypes();
        for (int i = 0; i < types.length; i++) {
            text.append(i == 0 ? "" : ",").append(types[i].getSimpleName());
        }
        return text.append(')').toString();
    }

    private static void checkFields() {
        checkFields(SumFreeSets.class, true);
        for (Class<?> inner : SumFreeSets.class.getDeclaredClasses()) {
            checkFields(inner, false);
        }
    }

    private static void checkFields(Class<?> type, boolean outer) {
        int own = 0;
        for (Field field : type.getDeclaredFields()) {
            int modifiers = field.getModifiers();
            if (Modifier.isStatic(modifiers)) {
                due(Modifier.isFinal(modifiers), "a static field that is not final: " + field);
            } else {
                own++;
            }
            due(!outer || Modifier.isPrivate(modifiers) || field.getName().equals("NONE"), "not private: " + field);
        }
        due(own <= 20, "more than twenty fields: " + type);
    }

    private static void checkNested() {
        Class<?>[] inside = SumFreeSets.class.getDeclaredClasses();
        due(inside.length <= 11, "more than twelve classes");
        for (Class<?> inner : inside) {
            due(Modifier.isStatic(inner.getModifiers()) && !Modifier.isPublic(inner.getModifiers()),
                "not static, or public: " + inner);
        }
    }

    private static void checkSource() throws Exception {
        String source = Files.readString(Path.of(SOURCE));
        String code = source.replaceAll("(?s)/\\*.*?\\*/", "").replaceAll("//[^\n]*", "");
        for (String banned : BANNED) {
            Matcher found = Pattern.compile((Character.isLetter(banned.charAt(0)) ? "\\b" : "")
                + Pattern.quote(banned) + (Character.isLetter(banned.charAt(banned.length() - 1)) ? "\\b" : ""))
                .matcher(code);
            due(!found.find(), "the source has " + banned);
        }
        due(code.matches("(?s)import java\\.util\\.Arrays;\\s+public final class .*"), "another import");
        due(source.chars().allMatch(c -> c == 10 || c >= 32 && c < 127), "a sign that is not plain");
    }
}
