import java.lang.reflect.Constructor;
import java.lang.reflect.Field;
import java.lang.reflect.Member;
import java.lang.reflect.Method;
import java.lang.reflect.Modifier;
import java.util.Arrays;
import java.util.Set;
import java.util.TreeSet;

// The public face is the document's, and what a compiled class shows of LANGUAGE.md is kept.
public final class FaceTest {
    private static final Set<String> FACE = new TreeSet<>(Set.of(
        "int add[int, int, int]", "int push[]", "int pop[]", "int possible[]", "int best[int, int]",
        "int numerator[int]", "int denominator[int]", "int test[int, int, int]", "int spare[]"));
    private static final Set<Class<?>> NUMBERS = Set.of(
        int.class, long.class, short.class, byte.class, char.class, boolean.class);

    private static int wrong = 0;

    private static void check(boolean holds, String otherwise) {
        if (!holds) {
            wrong++;
            System.out.println(otherwise);
        }
    }

    private static boolean isAllowed(Class<?> type) {
        return NUMBERS.contains(type) || type.isArray() && NUMBERS.contains(type.getComponentType());
    }

    private static boolean isPrivate(Member member) {
        return Modifier.isPrivate(member.getModifiers());
    }

    private static void checkClass(Class<?> desk) {
        check(Modifier.isPublic(desk.getModifiers()) && Modifier.isFinal(desk.getModifiers()), "not public and final");
        check(desk.getPackageName().isEmpty(), "lies in a package");
        check(desk.getSuperclass() == Object.class && desk.getInterfaces().length == 0, "has a parent");
        check(desk.getDeclaredClasses().length == 0, "has a nested class");
        Constructor<?>[] constructors = desk.getDeclaredConstructors();
        check(constructors.length == 1 && constructors[0].getParameterCount() == 0
            && Modifier.isPublic(constructors[0].getModifiers()), "other constructors than the document's");
    }

    private static void checkMethods(Class<?> desk) {
        Set<String> shown = new TreeSet<>();
        Set<String> shownNames = new TreeSet<>();
        for (Method method : desk.getDeclaredMethods()) {
            if (!isPrivate(method)) {
                String parameters = Arrays.toString(method.getParameterTypes());
                shown.add(method.getReturnType() + " " + method.getName() + parameters);
                shownNames.add(method.getName());
                check(Modifier.isPublic(method.getModifiers()) && !Modifier.isStatic(method.getModifiers()),
                    method + " is not a public method of the object");
            }
        }
        check(shown.equals(FACE), "the face is " + shown + ", due is " + FACE);
        for (Method method : desk.getDeclaredMethods()) {
            check(!isPrivate(method) || !shownNames.contains(method.getName()), method + " bears a public name");
            check(method.getParameterCount() <= 7, method + " takes too much");
            check(!method.getReturnType().isArray(), method + " answers an array");
        }
    }

    private static void checkFields(Class<?> desk) {
        int held = 0;
        for (Field field : desk.getDeclaredFields()) {
            boolean constant = Modifier.isStatic(field.getModifiers());
            held += constant ? 0 : 1;
            check(isPrivate(field), field + " is not private");
            check(isAllowed(field.getType()), field + " is of another type");
            check(!constant || Modifier.isFinal(field.getModifiers())
                && (field.getType() == int.class || field.getType() == long.class), field + " is no constant");
        }
        check(held <= 40, held + " fields");
    }

    public static void main(String[] args) {
        checkClass(CornerDesk.class);
        checkMethods(CornerDesk.class);
        checkFields(CornerDesk.class);
        System.out.println(wrong == 0 ? "the face is as due" : wrong + " faults in the face");
        if (wrong != 0) {
            System.exit(1);
        }
    }
}
