import java.io.IOException;
import java.lang.reflect.Field;
import java.lang.reflect.Member;
import java.lang.reflect.Method;
import java.lang.reflect.Modifier;
import java.nio.file.Files;
import java.nio.file.Path;
import java.util.List;
import java.util.regex.Matcher;
import java.util.regex.Pattern;

/**
 * README.md says how to use the class: it names every public member, and each call of its examples answers what stands
 * behind it. The examples are read from the file, so that they can't come to say something else than is tested.
 */
public final class ReadmeTest {
    private static final Pattern CALL = Pattern.compile("forth\\.(\\w+)\\(([-\\d, ]*)\\); +// (-?\\w+)(:.*)?");
    private static final String NEW_OBJECT = "ForthCompiler forth = new ForthCompiler();";
    private static final int LEAST_CALLS = 20;

    private static int wrong;
    private static int calls;

    private static void tell(String what) {
        wrong++;
        System.out.println("README.md: " + what);
    }

    private static void namesEveryMember(String readme) {
        for (Field field : ForthCompiler.class.getDeclaredFields()) {
            isNamed(readme, field, "`" + field.getName() + "`");
        }
        for (Method method : ForthCompiler.class.getDeclaredMethods()) {
            isNamed(readme, method, "| `" + method.getName() + "(");
        }
    }

    private static void isNamed(String readme, Member member, String name) {
        if (Modifier.isPublic(member.getModifiers()) && !readme.contains(name)) {
            tell(member.getName() + " is not named");
        }
    }

    private static void examplesHold(List<String> lines) throws ReflectiveOperationException {
        ForthCompiler forth = null;
        boolean inExample = false;
        for (String line : lines) {
            if (line.startsWith("```")) {
                inExample = line.equals("```java");
                forth = null;
            } else if (inExample && line.equals(NEW_OBJECT)) {
                forth = new ForthCompiler();
            } else if (inExample) {
                callHolds(forth, line);
            }
        }
        if (calls < LEAST_CALLS) {
            tell("only " + calls + " calls of examples were found");
        }
    }

    private static void callHolds(ForthCompiler forth, String line) throws ReflectiveOperationException {
        Matcher call = CALL.matcher(line);
        if (forth == null || !call.matches()) {
            tell("no call with its answer on a new object: " + line);
            return;
        }
        calls++;
        Object got = answer(forth, call.group(1), call.group(2));
        if (!String.valueOf(got).equals(due(call.group(3)))) {
            tell("the answer is " + got + ": " + line);
        }
    }

    private static Object answer(ForthCompiler forth, String name, String list) throws ReflectiveOperationException {
        String[] words = list.isEmpty() ? new String[0] : list.split(", ");
        Class<?>[] types = new Class<?>[words.length];
        Object[] arguments = new Object[words.length];
        for (int i = 0; i < words.length; i++) {
            types[i] = int.class;
            arguments[i] = Integer.valueOf(words[i]);
        }
        return ForthCompiler.class.getMethod(name, types).invoke(forth, arguments);
    }

    /** A word of capitals is a constant of the class. */
    private static String due(String word) throws ReflectiveOperationException {
        return word.matches("[A-Z]+") ? String.valueOf(ForthCompiler.class.getField(word).getInt(null)) : word;
    }

    public static void main(String[] args) throws IOException, ReflectiveOperationException {
        Path file = Path.of("README.md");
        namesEveryMember(Files.readString(file));
        examplesHold(Files.readAllLines(file));
        if (wrong > 0) {
            System.exit(1);
        }
        System.out.println("README.md names every member, and its " + calls + " calls answer as it says");
    }
}
