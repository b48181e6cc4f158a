import java.lang.reflect.Field;
import java.lang.reflect.Method;
import java.lang.reflect.Modifier;
import java.util.Set;
import java.util.TreeSet;

/** The public face: every constant, the constructor and every method with its throws clause, and nothing else. */
public final class FaceTest {
    private static final String OUT = "IndexOutOfBoundsException";
    private static final String BAD = "IllegalArgumentException";
    private static final String WHEN = "IllegalStateException";

    private static final String[] METHODS = {
        "int addLevel(int, int)" + clause(BAD, WHEN),
        "int setCell(int, int, int, int)" + clause(OUT, BAD, WHEN),
        "void setStart(int, int, int)" + clause(OUT, WHEN),
        "void setFlag(int, int, int)" + clause(OUT, WHEN),
        "int grow(int, int)" + clause(OUT, BAD),
        "int cell(int, int, int)" + clause(OUT),
        "int levels()",
        "int solve(int)" + clause(OUT),
        "int way(int)" + clause(OUT),
        "boolean open(int)" + clause(OUT, WHEN),
        "boolean isOpen(int)" + clause(OUT),
        "int begin(int, int)" + clause(OUT, WHEN),
        "int play(int)" + clause(BAD, WHEN),
        "int state()",
        "int frames()",
        "int heroX()",
        "int heroY()",
        "int lift()",
        "int left()",
        "int hint()",
        "int record(int, int)" + clause(OUT),
        "int half(int, int)" + clause(OUT),
        "int bestPlayer(int)" + clause(OUT),
        "int ghost()",
        "int replay(int, int)" + clause(OUT),
    };

    private static final String[] CONSTANTS = {
        "NONE -1", "EMPTY 0", "BLOCK 1", "SPIKE 2", "SPRING 3", "RUNNING 0", "LOST 1", "WON 2",
    };

    public static void main(String[] args) throws IllegalAccessException {
        Checks.same("the modifiers of the class", Modifier.toString(SpringLevels.class.getModifiers()), "public final");
        Checks.same("the constructors", SpringLevels.class.getDeclaredConstructors().length, 1);
        Checks.same("the constructor", SpringLevels.class.getConstructors()[0].toString(), "public SpringLevels()");
        Checks.same("the methods", methods().toString(), new TreeSet<>(Set.of(METHODS)).toString());
        Checks.same("the constants", constants().toString(), new TreeSet<>(Set.of(CONSTANTS)).toString());
        noOtherMethodBearsAPublicName();
        Checks.end("FaceTest");
    }

    /** A rule of LANGUAGE.md, for the classes inside too. */
    private static void noOtherMethodBearsAPublicName() {
        Set<String> names = new TreeSet<>();
        for (Method method : SpringLevels.class.getMethods()) {
            names.add(method.getName());
        }
        noneIsNamedSo(SpringLevels.class, names);
        for (Class<?> inside : SpringLevels.class.getDeclaredClasses()) {
            noneIsNamedSo(inside, names);
        }
    }

    private static void noneIsNamedSo(Class<?> owner, Set<String> names) {
        for (Method method : owner.getDeclaredMethods()) {
            boolean face = owner == SpringLevels.class && Modifier.isPublic(method.getModifiers());
            Checks.same(owner.getSimpleName() + "." + method.getName() + " bears a public name",
                !face && names.contains(method.getName()), false);
        }
    }

    private static String clause(String... exceptions) {
        return " throws " + String.join(", ", exceptions);
    }

    private static Set<String> methods() {
        Set<String> found = new TreeSet<>();
        for (Method method : SpringLevels.class.getDeclaredMethods()) {
            if (!Modifier.isPrivate(method.getModifiers()) && !method.isSynthetic()) {
                found.add(described(method));
            }
        }
        return found;
    }

    private static String described(Method method) {
        StringBuilder text = new StringBuilder();
        int others = method.getModifiers() & ~Modifier.PUBLIC;
        text.append(others == 0 && Modifier.isPublic(method.getModifiers()) ? "" : "not just public: ");
        text.append(method.getReturnType().getSimpleName()).append(' ').append(method.getName()).append('(');
        String comma = "";
        for (Class<?> parameter : method.getParameterTypes()) {
            text.append(comma).append(parameter.getSimpleName());
            comma = ", ";
        }
        text.append(')');
        comma = " throws ";
        for (Class<?> exception : method.getExceptionTypes()) {
            text.append(comma).append(exception.getSimpleName());
            comma = ", ";
        }
        return text.toString();
    }

    private static Set<String> constants() throws IllegalAccessException {
        Set<String> found = new TreeSet<>();
        for (Field field : SpringLevels.class.getDeclaredFields()) {
            if (!Modifier.isPrivate(field.getModifiers()) && !field.isSynthetic()) {
                boolean constant = Modifier.toString(field.getModifiers()).equals("public static final");
                found.add(constant ? field.getName() + " " + field.getInt(null) : "no constant: " + field.getName());
            }
        }
        return found;
    }
}
