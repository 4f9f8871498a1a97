import java.lang.reflect.Constructor;
import java.lang.reflect.Field;
import java.lang.reflect.Method;
import java.lang.reflect.Modifier;
import java.util.Arrays;
import java.util.Set;
import java.util.TreeSet;

/** The class shows the document's face and nothing else. */
public final class FaceTest {
    private static final Set<String> METHODS = new TreeSet<>(Arrays.asList(
            "int surd(int, int, int)", "int partOf(int)", "int term(int)", "int again(int)", "long convergent(int, int)",
            "long between(int, int, int)", "int nearest(int, int)", "int beside(int, int, int)", "int records(int)",
            "int solution(int, int, int)", "int solutions(int)", "long leastSolution(int)", "int note()",
            "int strike(int)", "int strikeAll()", "int noteOf(int, int)", "int count(int)", "int undo()",
            "int type(int)", "int clearText()", "int fault(int)", "long told(int)"));
    private static final Set<String> CONSTANTS = new TreeSet<>(Arrays.asList(
            "INVALID_ARGUMENT", "NOT_POSSIBLE", "LIMIT_REACHED", "NOT_FOUND"));

    private FaceTest() {
    }

    public static void main(String[] args) {
        Class<?> face = SurdFractions.class;
        Due.holds("the class is not public and final",
                Modifier.isPublic(face.getModifiers()) && Modifier.isFinal(face.getModifiers()));
        methods(face);
        fields(face);
        Constructor<?>[] constructors = face.getDeclaredConstructors();
        Due.holds("there is not just the one public constructor", constructors.length == 1
                && Modifier.isPublic(constructors[0].getModifiers()) && constructors[0].getParameterCount() == 0);
        for (Class<?> inside : face.getDeclaredClasses()) {
            inside(inside);
        }
        Due.holds("more than twelve classes", face.getDeclaredClasses().length + 1 <= 12);
        Due.end();
    }

    private static void methods(Class<?> face) {
        Set<String> open = new TreeSet<>();
        for (Method method : face.getDeclaredMethods()) {
            if (Modifier.isPrivate(method.getModifiers())) {
                hidden(method);
            } else {
                Due.holds(method + " is not public", Modifier.isPublic(method.getModifiers()));
                Due.holds(method + " is static", !Modifier.isStatic(method.getModifiers()));
                open.add(told(method));
            }
        }
        Due.holds("the methods are " + open, open.equals(METHODS));
    }

    private static String told(Method method) {
        StringBuilder all = new StringBuilder();
        for (Class<?> type : method.getParameterTypes()) {
            all.append(all.length() == 0 ? "" : ", ").append(type);
        }
        return method.getReturnType() + " " + method.getName() + "(" + all + ")";
    }

    private static void hidden(Method method) {
        for (String open : METHODS) {
            Due.holds(method + " bears a public name", !open.contains(" " + method.getName() + "("));
        }
        Due.holds(method + " takes more than seven parameters", method.getParameterCount() <= 7);
    }

    private static void fields(Class<?> type) {
        Set<String> open = new TreeSet<>();
        for (Field field : type.getDeclaredFields()) {
            int modifiers = field.getModifiers();
            Due.holds(field + " is static and not final", !Modifier.isStatic(modifiers) || Modifier.isFinal(modifiers));
            if (!Modifier.isPrivate(modifiers)) {
                Due.holds(field + " is no public constant", Modifier.isPublic(modifiers) && Modifier.isStatic(modifiers)
                        && field.getType() == int.class);
                open.add(field.getName());
            }
        }
        Due.holds("the constants are " + open, open.equals(CONSTANTS));
    }

    private static void inside(Class<?> type) {
        int modifiers = type.getModifiers();
        Due.holds(type + " is not static", Modifier.isStatic(modifiers));
        Due.holds(type + " is open", !Modifier.isPublic(modifiers) && !Modifier.isProtected(modifiers));
        int fields = 0;
        for (Field field : type.getDeclaredFields()) {
            boolean isStatic = Modifier.isStatic(field.getModifiers());
            Due.holds(field + " is static and not final", !isStatic || Modifier.isFinal(field.getModifiers()));
            fields += isStatic ? 0 : 1;
        }
        Due.holds(type + " has more than twenty fields", fields <= 20);
        for (Method method : type.getDeclaredMethods()) {
            if (Modifier.isPrivate(method.getModifiers())) {
                hidden(method);
            }
        }
    }
}
