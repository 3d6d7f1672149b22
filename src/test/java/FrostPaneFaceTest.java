import java.lang.reflect.Constructor;
import java.lang.reflect.Field;
import java.lang.reflect.Method;
import java.lang.reflect.Modifier;
import java.util.Arrays;
import java.util.Set;
import java.util.TreeSet;
import java.util.stream.Collectors;

/** The public face is that of the document, and there is no other member that is not private. */
public final class FrostPaneFaceTest {
    private static final String[] FACE = {
        "int lay(int, int) IllegalArgumentException",
        "boolean turn(int, int) IndexOutOfBoundsException, IllegalStateException",
        "int press(int, int, int) IndexOutOfBoundsException, IllegalArgumentException",
        "int setFrame(int) IllegalArgumentException",
        "int addRule(int, int) IllegalArgumentException, IllegalStateException",
        "int breathe(int) IndexOutOfBoundsException",
        "int grow(int) IllegalArgumentException",
        "int columns() ",
        "int rows() ",
        "int generation() ",
        "int rules() ",
        "int breath() ",
        "int frozen() ",
        "int melted() ",
        "boolean isFrozen(int, int) IndexOutOfBoundsException",
        "int meltedFor(int, int) IndexOutOfBoundsException",
        "int around(int, int) IndexOutOfBoundsException",
        "boolean willFreeze(int, int) IndexOutOfBoundsException",
        "int frozenInRow(int) IndexOutOfBoundsException",
        "int flowers() ",
        "int largestFlower() ",
        "int flowerAt(int, int) IndexOutOfBoundsException",
        "boolean isMirrored() ",
        "int frozenIn(int) IllegalArgumentException",
        "int comesAgainIn() ",
        "int standsStillIn() ",
        "int peakIn(int) IllegalArgumentException",
        "int bestBreath(int) IllegalArgumentException",
        "double meanInRows() ",
        "long digest() ",
    };

    private final Check check = new Check("FrostPaneFaceTest");

    public static void main(String[] args) {
        FrostPaneFaceTest test = new FrostPaneFaceTest();
        test.face();
        test.members();
        test.check.end();
    }

    private void face() {
        Set<String> found = new TreeSet<>();
        for (Method method : FrostPane.class.getDeclaredMethods()) {
            if (Modifier.isPublic(method.getModifiers())) {
                found.add(method.getReturnType() + " " + method.getName()
                        + Arrays.stream(method.getParameterTypes()).map(Class::getSimpleName)
                                .collect(Collectors.joining(", ", "(", ")"))
                        + Arrays.stream(method.getExceptionTypes()).map(Class::getSimpleName)
                                .collect(Collectors.joining(", ", " ", "")));
                check.same(method + " is of an object", Modifier.isStatic(method.getModifiers()), false);
            }
        }
        check.same("the face", found.toString(), new TreeSet<>(Arrays.asList(FACE)).toString());
        check.same("final", Modifier.isFinal(FrostPane.class.getModifiers()), true);
        check.same("public", Modifier.isPublic(FrostPane.class.getModifiers()), true);
    }

    private void members() {
        Set<String> open = new TreeSet<>();
        for (Method method : FrostPane.class.getDeclaredMethods()) {
            if (Modifier.isPublic(method.getModifiers())) {
                open.add(method.getName());
            }
        }
        for (Method method : FrostPane.class.getDeclaredMethods()) {
            int kind = method.getModifiers();
            check.same(method + " is of the face or private", Modifier.isPublic(kind) || Modifier.isPrivate(kind), true);
            check.same(method + " has a name of its own", Modifier.isPrivate(kind) && open.contains(method.getName()), false);
        }
        for (Field field : FrostPane.class.getDeclaredFields()) {
            check.same(field + " is private", Modifier.isPrivate(field.getModifiers()), true);
        }
        Constructor<?>[] made = FrostPane.class.getDeclaredConstructors();
        check.same("constructors", made.length, 1);
        check.same("FrostPane() is public", Modifier.isPublic(made[0].getModifiers()), true);
        check.same("FrostPane() takes nothing", made[0].getParameterCount(), 0);
        for (Class<?> inside : FrostPane.class.getDeclaredClasses()) {
            check.same(inside + " is static", Modifier.isStatic(inside.getModifiers()), true);
            check.same(inside + " is not public", Modifier.isPublic(inside.getModifiers()), false);
        }
    }
}
