import java.lang.reflect.Constructor;
import java.lang.reflect.Field;
import java.lang.reflect.Method;
import java.lang.reflect.Modifier;
import java.util.Arrays;
import java.util.TreeSet;
import java.util.stream.Collectors;

// The public face of the document, and no other member that is seen from outside.
public final class FaceTest {
    private static final String I = "IndexOutOfBoundsException";
    private static final String A = "IllegalArgumentException";
    private static final String S = "IllegalStateException";
    private static final String N = "NoSuchElementException";

    private static final String[] METHODS = {
        "int table(int, int) throws " + A + " " + S,
        "int insert(int, int) throws " + I + " " + A + " " + S,
        "int delete(int, int) throws " + I + " " + N,
        "int of(int) throws " + I + " " + S,
        "int select(int, int, int, boolean) throws " + I + " " + A + " " + S,
        "int drop(int, int, int) throws " + I + " " + A + " " + S,
        "int join(int, int) throws " + I + " " + A + " " + S,
        "int columns(int) throws " + I,
        "int key(int) throws " + I,
        "int rows(int) throws " + I,
        "int row(int, int) throws " + I,
        "int open(int) throws " + I,
        "int add(int) throws " + S + " " + A,
        "int takeOut(int) throws " + S + " " + N,
        "int change(int, int, int) throws " + S + " " + A + " " + N,
        "int draftRow(int) throws " + S + " " + I,
        "int conflict() throws " + S,
        "int conflictRow(int) throws " + S + " " + A,
        "int changes() throws " + S,
        "int fewest() throws " + S,
        "int putBack() throws " + S,
        "int undo() throws " + S,
    };

    public static void main(String[] args) {
        Check.same("the class", "public final", Modifier.toString(Lensbench.class.getModifiers()));
        methods();
        fields();
        constructors();
        classesInside();
        Check.done("FaceTest");
    }

    private static String names(Class<?>[] types, String between) {
        return Arrays.stream(types).map(Class::getSimpleName).collect(Collectors.joining(between));
    }

    private static void methods() {
        TreeSet<String> seen = new TreeSet<>();
        TreeSet<String> publicNames = new TreeSet<>();
        TreeSet<String> privateNames = new TreeSet<>();
        for (Method method : Lensbench.class.getDeclaredMethods()) {
            if (Modifier.isPrivate(method.getModifiers())) {
                privateNames.add(method.getName());
            } else if (!method.isSynthetic()) {
                publicNames.add(method.getName());
                Check.same(method.getName(), "public", Modifier.toString(method.getModifiers()));
                seen.add(method.getReturnType() + " " + method.getName() + "("
                        + names(method.getParameterTypes(), ", ") + ") throws "
                        + names(method.getExceptionTypes(), " "));
            }
        }
        Check.same("methods", new TreeSet<>(Arrays.asList(METHODS)).toString(), seen.toString());
        privateNames.retainAll(publicNames);
        Check.same("private methods with public names", "[]", privateNames.toString());
    }

    private static void fields() {
        for (Field field : Lensbench.class.getDeclaredFields()) {
            boolean isPrivate = Modifier.isPrivate(field.getModifiers());
            String due = isPrivate ? field.toString() : "public static final int Lensbench.NONE";
            Check.same("field " + field.getName(), due, field.toString());
            if (Modifier.isStatic(field.getModifiers())) {
                Check.same("static " + field.getName(), "true", "" + Modifier.isFinal(field.getModifiers()));
            }
        }
        Check.is("NONE", -1, () -> Lensbench.NONE);
    }

    private static void constructors() {
        Constructor<?>[] made = Lensbench.class.getDeclaredConstructors();
        Check.same("constructors", "[public Lensbench()]", Arrays.toString(made));
    }

    private static void classesInside() {
        Class<?>[] inside = Lensbench.class.getDeclaredClasses();
        Check.same("some twelve classes", "true", "" + (inside.length < 12));
        for (Class<?> one : inside) {
            String kind = Modifier.toString(one.getModifiers() & ~Modifier.FINAL & ~Modifier.ABSTRACT);
            Check.same("class " + one.getSimpleName(), "private static", kind);
        }
    }
}
