import java.lang.reflect.Constructor;
import java.lang.reflect.Field;
import java.lang.reflect.Member;
import java.lang.reflect.Method;
import java.lang.reflect.Modifier;
import java.util.Arrays;
import java.util.HashSet;
import java.util.Set;
import java.util.TreeSet;

/** The class shows the document's public face and nothing beside it (LANGUAGE.md, rules 1, 2, 5). */
public final class FaceTest {
    private static final Set<String> FACE = new TreeSet<>(Arrays.asList(
        "VersionStore()",
        "int begin(boolean)",
        "int read(int, int)",
        "int write(int, int, int)",
        "int add(int, int, int)",
        "int commit(int)",
        "int abort(int)",
        "int might(int)",
        "int committed(int)",
        "int sum(int, int, int)",
        "void tidy()",
        "int open()"));

    private static final Set<Class<?>> NUMBERS = new HashSet<>(Arrays.asList(
        int.class, long.class, short.class, byte.class, char.class, boolean.class));

    private static int wrong = 0;

    private static void check(boolean holds, String fault) {
        if (!holds) {
            wrong++;
            System.out.println(fault);
        }
    }

    private static String parameters(Class<?>[] types) {
        StringBuilder text = new StringBuilder("(");
        for (Class<?> type : types) {
            text.append(text.length() > 1 ? ", " : "").append(type.getName());
        }
        return text.append(")").toString();
    }

    private static boolean isHidden(Member member) {
        check(Modifier.isPublic(member.getModifiers()) || Modifier.isPrivate(member.getModifiers()),
            member + " is neither public nor private");
        return Modifier.isPrivate(member.getModifiers());
    }

    private static void checkMethods(Class<?> type) {
        Set<String> shown = new TreeSet<>();
        Set<String> shownNames = new HashSet<>();
        for (Constructor<?> made : type.getDeclaredConstructors()) {
            if (!isHidden(made)) {
                shown.add(type.getName() + parameters(made.getParameterTypes()));
            }
        }
        for (Method method : type.getDeclaredMethods()) {
            if (!isHidden(method)) {
                check(!Modifier.isStatic(method.getModifiers()), method + " is static");
                shownNames.add(method.getName());
                shown.add(method.getReturnType().getName() + " " + method.getName()
                    + parameters(method.getParameterTypes()));
            }
        }
        check(shown.equals(FACE), "the face is " + shown + ", due is " + FACE);
        for (Method method : type.getDeclaredMethods()) {
            check(!isHidden(method) || !shownNames.contains(method.getName()),
                method + " bears the name of a public one");
            check(method.getParameterCount() <= 7, method + " takes too many parameters");
        }
    }

    private static void checkFields(Class<?> type) {
        for (Field field : type.getDeclaredFields()) {
            check(isHidden(field), field + " is not private");
            Class<?> kind = field.getType();
            if (Modifier.isStatic(field.getModifiers())) {
                check(Modifier.isFinal(field.getModifiers())
                    && (kind == int.class || kind == long.class), field + " is no constant");
            } else {
                check(NUMBERS.contains(kind.isArray() ? kind.getComponentType() : kind),
                    field + " is of a type outside the rules");
            }
        }
    }

    public static void main(String[] args) {
        Class<?> type = VersionStore.class;
        check(Modifier.isPublic(type.getModifiers()) && Modifier.isFinal(type.getModifiers()),
            "the class is not public and final");
        check(type.getSuperclass() == Object.class && type.getInterfaces().length == 0,
            "the class extends or implements something");
        check(type.getDeclaredClasses().length == 0, "the class has a nested one");
        checkMethods(type);
        checkFields(type);
        System.out.println(wrong == 0 ? "the face is as due" : wrong + " faults in the face");
        if (wrong != 0) {
            System.exit(1);
        }
    }
}
