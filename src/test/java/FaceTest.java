import java.lang.reflect.Constructor;
import java.lang.reflect.Field;
import java.lang.reflect.Method;
import java.lang.reflect.Modifier;
import java.util.Arrays;
import java.util.Set;
import java.util.TreeSet;
import java.util.stream.Collectors;

/** The section "The public face": the class shows the face that the document tells, and nothing else. */
public final class FaceTest {
    private static final Set<String> FACE = new TreeSet<>(Set.of(
            "int group(int, int) IllegalArgumentException IllegalStateException",
            "int course(int) IllegalArgumentException IllegalStateException",
            "boolean open(int, boolean) IllegalArgumentException",
            "int expire(int, int) IllegalArgumentException",
            "int requirement(int, int) IllegalArgumentException IllegalStateException",
            "boolean allow(int, int, int) IllegalArgumentException",
            "int student(int, int) IllegalArgumentException",
            "int pass(int, int, int) IllegalArgumentException",
            "boolean substitute(int, int, int) IllegalArgumentException IllegalStateException",
            "int exempt(int, int, int) IllegalArgumentException",
            "boolean lives(int, int, int) IllegalArgumentException",
            "int audit(int, int) IllegalArgumentException IllegalStateException",
            "int assigned(int) IllegalArgumentException NoSuchElementException",
            "int used(int) IllegalArgumentException NoSuchElementException",
            "int receipt(int) IllegalArgumentException NoSuchElementException",
            "int supply(int, int, int) IllegalArgumentException IllegalStateException",
            "int fewestMore(int, int) IllegalArgumentException IllegalStateException"));

    public static void main(String[] args) {
        Check check = new Check();
        check.due("the methods", FACE, FaceTest::methods);
        check.due("the constants", Set.of("NONE"), FaceTest::constants);
        check.due("NONE", -1, () -> StudyAudit.NONE);
        check.due("the constructors", 1, () -> StudyAudit.class.getDeclaredConstructors().length);
        check.due("the constructor is public and takes nothing", true, FaceTest::hasPlainConstructor);
        check.due("the class is public and final", Modifier.PUBLIC | Modifier.FINAL, () -> StudyAudit.class.getModifiers());
        check.due("classes inside are static and not public", true, FaceTest::nestedClassesAreHidden);
        check.end();
    }

    private static Set<String> methods() {
        Set<String> found = new TreeSet<>();
        for (Method m : StudyAudit.class.getDeclaredMethods()) {
            if (!Modifier.isPrivate(m.getModifiers())) {
                found.add(textOf(m));
            }
        }
        return found;
    }

    private static String textOf(Method m) {
        String parameters = Arrays.stream(m.getParameterTypes()).map(Class::getName).collect(Collectors.joining(", "));
        String thrown = Arrays.stream(m.getExceptionTypes()).map(Class::getSimpleName).collect(Collectors.joining(" "));
        return m.getReturnType() + " " + m.getName() + "(" + parameters + ") " + thrown;
    }

    private static Set<String> constants() {
        Set<String> found = new TreeSet<>();
        for (Field f : StudyAudit.class.getDeclaredFields()) {
            if (!Modifier.isPrivate(f.getModifiers())) {
                found.add(f.getName());
            }
        }
        return found;
    }

    private static boolean hasPlainConstructor() {
        Constructor<?> only = StudyAudit.class.getDeclaredConstructors()[0];
        return Modifier.isPublic(only.getModifiers()) && only.getParameterCount() == 0;
    }

    private static boolean nestedClassesAreHidden() {
        return Arrays.stream(StudyAudit.class.getDeclaredClasses())
                .allMatch(c -> Modifier.isStatic(c.getModifiers()) && !Modifier.isPublic(c.getModifiers())
                        && !Modifier.isProtected(c.getModifiers()));
    }
}
