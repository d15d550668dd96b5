import java.lang.reflect.Constructor;
import java.lang.reflect.Field;
import java.lang.reflect.Method;
import java.lang.reflect.Modifier;
import java.util.Arrays;
import java.util.Set;
import java.util.TreeSet;

/** The public face is the document's: these members and no other that is not private. */
public final class FaceTest {
    private static final String[] FACE = {
        "BAD = -100000", "FULL = -100001", "ENDED = 0", "TIRED = 1", "UNDER = 2", "ZERO = 3", "OVER = 4", "DEEP = 5",
        "new []",
        "int token [int, int]", "int define []", "int cancel []", "int forget []", "boolean push [int]",
        "int run [int]", "int steps []", "int depth []", "int pick [int]", "int cell [int]",
        "boolean setCell [int, int]", "int printed []", "int text [int]", "boolean level [int]",
    };

    public static void main(String[] args) throws IllegalAccessException {
        Set<String> due = new TreeSet<>(Arrays.asList(FACE));
        Set<String> got = new TreeSet<>();
        boolean good = true;
        for (Field field : ForthCompiler.class.getDeclaredFields()) {
            if (!Modifier.isPrivate(field.getModifiers())) {
                good &= field.getModifiers() == (Modifier.PUBLIC | Modifier.STATIC | Modifier.FINAL);
                good &= field.getType() == int.class;
                got.add(field.getName() + " = " + field.getInt(null));
            }
        }
        for (Constructor<?> constructor : ForthCompiler.class.getDeclaredConstructors()) {
            good &= constructor.getModifiers() == Modifier.PUBLIC;
            got.add("new " + Arrays.toString(constructor.getParameterTypes()));
        }
        for (Method method : ForthCompiler.class.getDeclaredMethods()) {
            if (!Modifier.isPrivate(method.getModifiers())) {
                good &= method.getModifiers() == Modifier.PUBLIC;
                got.add(method.getReturnType() + " " + method.getName() + " "
                        + Arrays.toString(method.getParameterTypes()));
            }
        }
        good &= ForthCompiler.class.getModifiers() == (Modifier.PUBLIC | Modifier.FINAL);
        good &= ForthCompiler.class.getDeclaredClasses().length == 0;
        if (!good || !got.equals(due)) {
            System.out.println("the face is " + got + ", due is " + due + (good ? "" : "; a modifier or type is wrong"));
            System.exit(1);
        }
        System.out.println("the face is as due");
    }
}
