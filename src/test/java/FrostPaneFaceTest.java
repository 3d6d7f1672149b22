import java.io.IOException;
import java.lang.reflect.Constructor;
import java.lang.reflect.Field;
import java.lang.reflect.Method;
import java.lang.reflect.Modifier;
import java.nio.file.Files;
import java.nio.file.Path;
import java.util.ArrayList;
import java.util.Arrays;
import java.util.List;
import java.util.Set;
import java.util.TreeSet;
import java.util.regex.Matcher;
import java.util.regex.Pattern;
import java.util.stream.Collectors;

/** The public face is that of the document, and there is no other member that is not private. */
public final class FrostPaneFaceTest {
    private static final Path SOURCE = Path.of("src/main/java/FrostPane.java");
    private static final Pattern PART = Pattern.compile("    // (---- .*)|    public \\w+ (\\w+)\\(.*");

    private final Check check = new Check("FrostPaneFaceTest");

    public static void main(String[] args) throws Exception {
        FrostPaneFaceTest test = new FrostPaneFaceTest();
        test.face(Document.read().face());
        test.headers(Document.read().face());
        test.order(Document.read().order());
        test.members();
        test.check.end();
    }

    private void face(List<String> due) {
        check.same("methods read", due.size(), 30);
        Set<String> found = new TreeSet<>();
        for (Method method : FrostPane.class.getDeclaredMethods()) {
            if (Modifier.isPublic(method.getModifiers())) {
                found.add(method.getReturnType() + " " + method.getName()
                        + Arrays.stream(method.getParameterTypes()).map(Class::getSimpleName)
                                .collect(Collectors.joining(", ", "(", ")"))
                        + Arrays.stream(method.getExceptionTypes()).map(Class::getSimpleName)
                                .collect(Collectors.joining(", ", " throws ", "")).replaceFirst(" throws $", ""));
                check.same(method + " is of an object", Modifier.isStatic(method.getModifiers()), false);
            }
        }
        Set<String> withoutNames = new TreeSet<>();
        for (String method : due) {
            withoutNames.add(method.replaceAll("(\\w+) [a-z]\\w*([,)])", "$1$2"));
        }
        check.same("the face", found.toString(), withoutNames.toString());
        check.same("final", Modifier.isFinal(FrostPane.class.getModifiers()), true);
        check.same("public", Modifier.isPublic(FrostPane.class.getModifiers()), true);
    }

    /** Parameters bear the document's names, too. */
    private void headers(List<String> due) throws IOException {
        String source = Files.readString(SOURCE).replaceAll("\\s+", " ");
        check.same("public FrostPane()", source.contains(" public FrostPane() {"), true);
        for (String method : due) {
            check.same("public " + method, source.contains(" public " + method + " {"), true);
        }
    }

    /** What the interface says ahead of some calls, and the calls, stand in the document's order. */
    private void order(List<String> due) throws IOException {
        List<String> found = new ArrayList<>();
        for (String line : Files.readAllLines(SOURCE)) {
            Matcher part = PART.matcher(line);
            if (part.matches()) {
                found.add(part.group(1) != null ? part.group(1) : part.group(2));
            }
        }
        check.same("calls and headings read", due.size(), 35);
        check.same("the order", String.join(" ", found), String.join(" ", due));
    }

    private void members() {
        Set<String> open = new TreeSet<>();
        for (Method method : FrostPane.class.getDeclaredMethods()) {
            if (Modifier.isPublic(method.getModifiers())) {
                open.add(method.getName());
            }
        }
        for (Method method : FrostPane.class.getDeclaredMethods()) {
            int kind = method.getModifiers();
            check.same(method + " is of the face or private", Modifier.isPublic(kind) || Modifier.isPrivate(kind), true);
            check.same(method + " has a name of its own", Modifier.isPrivate(kind) && open.contains(method.getName()), false);
        }
        for (Field field : FrostPane.class.getDeclaredFields()) {
            check.same(field + " is private", Modifier.isPrivate(field.getModifiers()), true);
        }
        Constructor<?>[] made = FrostPane.class.getDeclaredConstructors();
        check.same("constructors", made.length, 1);
        check.same("FrostPane() is public", Modifier.isPublic(made[0].getModifiers()), true);
        check.same("FrostPane() takes nothing", made[0].getParameterCount(), 0);
        for (Class<?> inside : FrostPane.class.getDeclaredClasses()) {
            check.same(inside + " is static", Modifier.isStatic(inside.getModifiers()), true);
            check.same(inside + " is not public", Modifier.isPublic(inside.getModifiers()), false);
        }
    }
}
