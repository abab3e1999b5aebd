import java.lang.reflect.Constructor;
import java.lang.reflect.Field;
import java.lang.reflect.Method;
import java.lang.reflect.Modifier;
import java.util.Arrays;
import java.util.List;
import java.util.TreeSet;

/** The class's face is the document's, with its throws clauses, and nothing beside it can be seen. */
final class FaceTest {
    private static final List<String> FACE = List.of(
        "int setRoom[int] [IllegalArgumentException]",
        "int ask[int] [IndexOutOfBoundsException]",
        "int spoil[int] [IndexOutOfBoundsException, IllegalStateException]",
        "int sweep[] []",
        "int add[int] [IndexOutOfBoundsException, IllegalStateException]",
        "int drop[int] [IndexOutOfBoundsException]",
        "int cook[] []",
        "int told[int, int] [IndexOutOfBoundsException]",
        "int row[int, int] [IndexOutOfBoundsException]",
        "int count[int] [IndexOutOfBoundsException]",
        "int leaves[int] [IndexOutOfBoundsException]",
        "int foresee[int] [IllegalArgumentException]",
        "int plain[int] [IllegalArgumentException]",
        "int best[int] [IllegalArgumentException]",
        "double mean[] []",
        "long digest[] []");

    public static void main(String[] args) {
        Due due = new Due("FaceTest");
        Class<GhostPantry> face = GhostPantry.class;
        due.is("public and final", face.getModifiers() == (Modifier.PUBLIC | Modifier.FINAL));
        due.is("no package", face.getPackageName().isEmpty());

        TreeSet<String> methods = new TreeSet<>();
        TreeSet<String> publicNames = new TreeSet<>();
        for (Method method : face.getDeclaredMethods()) {
            if (!Modifier.isPrivate(method.getModifiers()) && !method.isSynthetic()) {
                due.is(method.getName() + " is public and nothing else",
                    method.getModifiers() == Modifier.PUBLIC);
                methods.add(told(method));
                publicNames.add(method.getName());
            }
        }
        due.is("the methods " + methods + " are the face's", methods.equals(new TreeSet<>(FACE)));
        for (Method method : face.getDeclaredMethods()) {
            due.is("private " + method.getName() + " has a name of its own",
                !Modifier.isPrivate(method.getModifiers()) || !publicNames.contains(method.getName()));
        }

        Constructor<?>[] made = face.getDeclaredConstructors();
        due.is("one public constructor without parameters", made.length == 1
            && made[0].getModifiers() == Modifier.PUBLIC && made[0].getParameterCount() == 0);
        for (Field field : face.getDeclaredFields()) {
            due.is("field " + field.getName() + " is private", Modifier.isPrivate(field.getModifiers()));
            due.is("static field " + field.getName() + " is final",
                !Modifier.isStatic(field.getModifiers()) || Modifier.isFinal(field.getModifiers()));
        }
        due.close();
    }

    private static String told(Method method) {
        return method.getReturnType().getSimpleName() + " " + method.getName()
            + names(method.getParameterTypes()) + " " + names(method.getExceptionTypes());
    }

    private static String names(Class<?>[] types) {
        return Arrays.stream(types).map(Class::getSimpleName).toList().toString();
    }
}
