import java.io.IOException;
import java.lang.reflect.Method;
import java.lang.reflect.Modifier;
import java.nio.file.Files;
import java.nio.file.Path;
import java.util.HashSet;
import java.util.Set;
import java.util.regex.Matcher;
import java.util.regex.Pattern;

// README.md tells every call of the public face, and its example answers what it says. Run it where
// README.md lies.
public final class ReadmeTest {
    private static final Pattern EXAMPLE = Pattern.compile("desk\\.(\\w+)\\(([^)]*)\\);\\s*// (-?\\d+)");

    private static int wrong = 0;

    private static void check(boolean holds, String otherwise) {
        if (!holds) {
            wrong++;
            System.out.println(otherwise);
        }
    }

    private static Object[] numbers(String list) {
        return Pattern.compile("-?\\d+").matcher(list).results().map(found -> Integer.valueOf(found.group())).toArray();
    }

    private static Method methodNamed(String name) {
        for (Method method : CornerDesk.class.getDeclaredMethods()) {
            if (method.getName().equals(name) && Modifier.isPublic(method.getModifiers())) {
                return method;
            }
        }
        throw new IllegalStateException("README.md calls " + name + ", which the class doesn't have");
    }

    private static Set<String> runExample(String readme) throws ReflectiveOperationException {
        CornerDesk desk = new CornerDesk();
        Set<String> called = new HashSet<>();
        Matcher row = EXAMPLE.matcher(readme);
        while (row.find()) {
            called.add(row.group(1));
            Object got = methodNamed(row.group(1)).invoke(desk, numbers(row.group(2)));
            check(got.equals(Integer.valueOf(row.group(3))), row.group() + " answered " + got);
        }
        return called;
    }

    private static void checkEveryCallIsTold(String readme, Set<String> called) {
        for (Method method : CornerDesk.class.getDeclaredMethods()) {
            if (Modifier.isPublic(method.getModifiers())) {
                String name = method.getName();
                check(called.contains(name), "the example doesn't call " + name);
                check(readme.contains("`" + name + "("), "README.md doesn't say what " + name + " answers");
            }
        }
    }

    public static void main(String[] args) throws IOException, ReflectiveOperationException {
        String readme = Files.readString(Path.of("README.md"));
        checkEveryCallIsTold(readme, runExample(readme));
        System.out.println(wrong == 0 ? "the README's example is as due" : wrong + " faults in README.md");
        if (wrong != 0) {
            System.exit(1);
        }
    }
}
