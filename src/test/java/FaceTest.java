import java.lang.reflect.Constructor;
import java.lang.reflect.Field;
import java.lang.reflect.Method;
import java.lang.reflect.Modifier;
import java.util.Arrays;
import java.util.Set;
import java.util.TreeSet;

/** The public face as the document has it, and what LANGUAGE.md's rules 1, 2, 5 and 11 say of the rest. */
public final class FaceTest {
    private static final Checks CHECKS = new Checks();

    private static final String[] FACE = {
        "int make(int, int, int) IllegalArgumentException UnsupportedOperationException",
        "boolean give(int, int, int)",
        "boolean wire(int, int, int)",
        "boolean keep(int, boolean)",
        "int nodes()",
        "int ring(int) NoSuchElementException",
        "int plan(int) IllegalArgumentException NoSuchElementException IllegalStateException ArithmeticException",
        "int order(int) IllegalStateException IndexOutOfBoundsException",
        "int about(int, int) IllegalStateException IndexOutOfBoundsException",
        "int cost(int) IllegalStateException IndexOutOfBoundsException",
        "int peak() IllegalStateException",
        "int least() IllegalStateException",
        "int run() IllegalStateException",
        "int cell(int) IllegalStateException IndexOutOfBoundsException",
        "int result(int, int) IllegalStateException NoSuchElementException IndexOutOfBoundsException",
    };

    public static void main(String[] args) {
        theClass();
        theConstructor();
        theMethods();
        theFields(ArenaPlan.class);
        theClassesInside();
        CHECKS.end();
    }

    private static void isTrue(String what, boolean holds) {
        CHECKS.answers(what, true, () -> holds);
    }

    private static void theClass() {
        int modifiers = ArenaPlan.class.getModifiers();
        isTrue("the class is public and final", Modifier.isPublic(modifiers) && Modifier.isFinal(modifiers));
        isTrue("it stands alone", ArenaPlan.class.getSuperclass() == Object.class);
        isTrue("it implements nothing", ArenaPlan.class.getInterfaces().length == 0);
        isTrue("it has no package", ArenaPlan.class.getPackageName().isEmpty());
    }

    private static void theConstructor() {
        Constructor<?>[] constructors = ArenaPlan.class.getDeclaredConstructors();
        isTrue("one constructor", constructors.length == 1);
        isTrue("it is public", Modifier.isPublic(constructors[0].getModifiers()));
        isTrue("it takes and throws nothing",
            constructors[0].getParameterCount() == 0 && constructors[0].getExceptionTypes().length == 0);
    }

    private static String names(Class<?>[] types, String between) {
        StringBuilder names = new StringBuilder();
        for (Class<?> type : types) {
            names.append(names.length() == 0 ? "" : between).append(type.getSimpleName());
        }
        return names.toString();
    }

    private static String text(Method method) {
        String head = method.getReturnType().getSimpleName() + " " + method.getName();
        String thrown = names(method.getExceptionTypes(), " ");
        return head + "(" + names(method.getParameterTypes(), ", ") + ")" + (thrown.isEmpty() ? "" : " " + thrown);
    }

    private static void theMethods() {
        Set<String> face = new TreeSet<>();
        Set<String> faceNames = new TreeSet<>();
        for (Method method : ArenaPlan.class.getDeclaredMethods()) {
            if (Modifier.isPublic(method.getModifiers())) {
                face.add(text(method));
                faceNames.add(method.getName());
                isTrue(method + " is of the object", !Modifier.isStatic(method.getModifiers()));
            }
        }
        CHECKS.answers("the face", new TreeSet<>(Arrays.asList(FACE)), () -> face);
        for (Method method : ArenaPlan.class.getDeclaredMethods()) {
            if (!Modifier.isPublic(method.getModifiers())) {
                isTrue(method + " is private", Modifier.isPrivate(method.getModifiers()));
                isTrue(method + " has a name of its own", !faceNames.contains(method.getName()));
            }
        }
        isTrue("no public class inside", ArenaPlan.class.getClasses().length == 0);
    }

    private static void theFields(Class<?> type) {
        for (Field field : type.getDeclaredFields()) {
            int modifiers = field.getModifiers();
            isTrue(field + " is private", type != ArenaPlan.class || Modifier.isPrivate(modifiers));
            isTrue(field + " is no static state", !Modifier.isStatic(modifiers) || Modifier.isFinal(modifiers));
        }
        isTrue(type + " has some twenty fields", countOwn(type) <= 20);
    }

    private static long countOwn(Class<?> type) {
        return Arrays.stream(type.getDeclaredFields()).filter(field -> !Modifier.isStatic(field.getModifiers())).count();
    }

    private static void theClassesInside() {
        Class<?>[] inside = ArenaPlan.class.getDeclaredClasses();
        isTrue("some twelve classes", inside.length < 12);
        for (Class<?> type : inside) {
            isTrue(type + " is static", Modifier.isStatic(type.getModifiers()));
            theFields(type);
        }
    }
}
