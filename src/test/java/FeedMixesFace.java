import java.lang.reflect.Constructor;
import java.lang.reflect.Field;
import java.lang.reflect.Method;
import java.lang.reflect.Modifier;
import java.util.Arrays;
import java.util.Set;
import java.util.TreeSet;

/** The public face is the document's, to the letter, and nothing else of the class can be seen (rules 1 and 5). */
public final class FeedMixesFace {
    private static final Set<String> FACE = new TreeSet<>(Arrays.asList(
            "int stuff [int, int]", "int price [int, int]", "int stock [int, int]", "boolean holds [int, int, int]",
            "boolean need [int, int, int]", "boolean shares [int, int, int]", "boolean silo [int, int]", "int run [int]",
            "long amount [int, int]", "long cost [int]", "int tight []", "int clash [int]", "long dearer [int, int]",
            "int line [int]", "int clean []", "int made []"));

    private static int wrong = 0;

    public static void main(String[] args) {
        Class<FeedMixes> face = FeedMixes.class;
        check(Modifier.isPublic(face.getModifiers()) && Modifier.isFinal(face.getModifiers()), "public and final");
        check(face.getPackageName().isEmpty() && face.getSuperclass() == Object.class
                && face.getInterfaces().length == 0, "a class by itself");
        checkMethods(face);
        check(face.getDeclaredConstructors().length == 1, "one constructor");
        for (Constructor<?> each : face.getDeclaredConstructors()) {
            check(each.getModifiers() == Modifier.PUBLIC && each.getParameterCount() == 0
                    && each.getExceptionTypes().length == 0, "constructor " + each);
        }
        for (Field each : face.getDeclaredFields()) {
            boolean isNone = each.getName().equals("NONE") && each.getType() == int.class
                    && each.getModifiers() == (Modifier.PUBLIC | Modifier.STATIC | Modifier.FINAL);
            check(isNone || Modifier.isPrivate(each.getModifiers()), "field " + each);
        }
        check(FeedMixes.NONE == -1, "NONE");
        for (Class<?> inside : face.getDeclaredClasses()) {
            check(!Modifier.isPublic(inside.getModifiers()) && Modifier.isStatic(inside.getModifiers()),
                    "class " + inside);
            for (Field each : inside.getDeclaredFields()) {
                check(!Modifier.isStatic(each.getModifiers()), "static field " + each);
            }
        }
        System.out.println(wrong == 0 ? "the face is as due" : wrong + " things are not as due");
        if (wrong != 0) {
            System.exit(1);
        }
    }

    private static void checkMethods(Class<?> face) {
        Set<String> found = new TreeSet<>();
        for (Method each : face.getDeclaredMethods()) {
            if (!Modifier.isPrivate(each.getModifiers())) {
                check(each.getModifiers() == Modifier.PUBLIC, "method " + each);
                check(each.getExceptionTypes().length == 0, "exceptions of " + each);
                found.add(each.getReturnType() + " " + each.getName() + " " + Arrays.toString(each.getParameterTypes()));
            }
        }
        check(found.equals(FACE), "the methods " + found);
    }

    private static void check(boolean isSo, String what) {
        if (!isSo) {
            wrong++;
            System.out.println("not as due: " + what);
        }
    }
}
