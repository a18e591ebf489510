import java.lang.reflect.Constructor;
import java.lang.reflect.Field;
import java.lang.reflect.Method;
import java.lang.reflect.Modifier;
import java.util.Arrays;
import java.util.Set;
import java.util.TreeSet;

/** The class shows the document's public face and nothing else. */
public final class FaceTest {
    private static final Set<String> FACE = new TreeSet<>(Arrays.asList(
            "put 2", "take 1", "copy 2", "entry 3", "forget 1", "tailor 3", "settings 3", "elements 1",
            "compare 3", "keySize 2", "keyAt 3", "rank 2", "nth 2", "kinds 1", "find 4"));

    private static int wrong = 0;

    private static void check(String what, boolean holds) {
        if (!holds) {
            wrong++;
            System.out.println("does not hold: " + what);
        }
    }

    private static void checkMethods() {
        Set<String> shown = new TreeSet<>();
        Set<String> shownNames = new TreeSet<>();
        for (Method method : CollationDesk.class.getDeclaredMethods()) {
            if (!Modifier.isPrivate(method.getModifiers())) {
                shown.add(method.getName() + " " + method.getParameterCount());
                shownNames.add(method.getName());
                check(method + " is public and answers an int",
                        Modifier.isPublic(method.getModifiers()) && method.getReturnType() == int.class);
                for (Class<?> type : method.getParameterTypes()) {
                    check(method + " takes ints", type == int.class);
                }
            }
        }
        check("the public methods are those of the document, not " + shown, shown.equals(FACE));
        for (Method method : CollationDesk.class.getDeclaredMethods()) {
            if (Modifier.isPrivate(method.getModifiers())) {
                check(method + " has a name of its own", !shownNames.contains(method.getName()));
            }
        }
    }

    private static void checkFields() {
        for (Field field : CollationDesk.class.getDeclaredFields()) {
            int modifiers = field.getModifiers();
            check(field + " is private", Modifier.isPrivate(modifiers));
            if (Modifier.isStatic(modifiers)) {
                check(field + " is a constant number", Modifier.isFinal(modifiers) && field.getType() == int.class);
            }
        }
    }

    public static void main(String[] args) {
        int modifiers = CollationDesk.class.getModifiers();
        check("the class is public and final", Modifier.isPublic(modifiers) && Modifier.isFinal(modifiers));
        check("the class has no class inside", CollationDesk.class.getDeclaredClasses().length == 0);
        Constructor<?>[] constructors = CollationDesk.class.getDeclaredConstructors();
        check("there is one constructor, public and without parameters", constructors.length == 1
                && Modifier.isPublic(constructors[0].getModifiers()) && constructors[0].getParameterCount() == 0);
        checkMethods();
        checkFields();
        System.out.println(wrong == 0 ? "the face is as due" : wrong + " checks of the face do not hold");
        if (wrong != 0) {
            System.exit(1);
        }
    }
}
