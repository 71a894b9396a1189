import java.io.IOException;
import java.lang.reflect.Constructor;
import java.lang.reflect.Field;
import java.lang.reflect.Method;
import java.lang.reflect.Modifier;
import java.nio.charset.StandardCharsets;
import java.nio.file.Files;
import java.nio.file.Path;
import java.util.ArrayList;
import java.util.Arrays;
import java.util.List;
import java.util.TreeSet;
import java.util.regex.Matcher;
import java.util.regex.Pattern;
import java.util.stream.Collectors;

// The public face as the document declares it, and no other member that is seen from outside.
public final class FaceTest {
    public static void main(String[] args) throws IOException {
        Check.same("the class", "public final", Modifier.toString(Lensbench.class.getModifiers()));
        methods();
        promises();
        source();
        fields();
        constructors();
        classesInside();
        Check.done("FaceTest");
    }

    // The declarations of the face that are methods, without "public ", ";" and java.util.
    private static List<String> declared() {
        List<String> declared = new ArrayList<>();
        for (String line : Doc.face()) {
            if (line.contains("(") && !line.contains(" Lensbench(")) {
                declared.add(plain(line));
            }
        }
        return declared;
    }

    private static String plain(String declaration) {
        return declaration.replaceAll("^public |java\\.util\\.|;$", "").replaceAll("\\s+", " ");
    }

    // "int row(int view, int place) throws X, Y" as reflection can tell it: "int row(int, int) throws X Y".
    private static String told(String declaration) {
        String[] halves = declaration.split("\\) throws ");
        return halves[0].replaceAll("(int|boolean) \\w+(?=[,)]|$)", "$1") + ") throws " + halves[1].replace(",", "");
    }

    private static String names(Class<?>[] types, String between) {
        return Arrays.stream(types).map(Class::getSimpleName).collect(Collectors.joining(between));
    }

    private static void methods() {
        TreeSet<String> seen = new TreeSet<>();
        TreeSet<String> publicNames = new TreeSet<>();
        TreeSet<String> privateNames = new TreeSet<>();
        for (Method method : Lensbench.class.getDeclaredMethods()) {
            if (Modifier.isPrivate(method.getModifiers())) {
                privateNames.add(method.getName());
            } else if (!method.isSynthetic()) {
                publicNames.add(method.getName());
                Check.same(method.getName(), "public", Modifier.toString(method.getModifiers()));
                seen.add(method.getReturnType() + " " + method.getName() + "("
                        + names(method.getParameterTypes(), ", ") + ") throws "
                        + names(method.getExceptionTypes(), " "));
            }
        }
        TreeSet<String> due = new TreeSet<>();
        declared().forEach(declaration -> due.add(told(declaration)));
        Check.same("methods", due.toString(), seen.toString());
        privateNames.retainAll(publicNames);
        Check.same("private methods with public names", "[]", privateNames.toString());
    }

    // The document declares each call twice, in the face and with its promise.
    private static void promises() {
        List<String> told = new ArrayList<>();
        for (int promise = 2; promise <= Doc.PROMISES; promise++) {
            told.add(plain(Doc.declaration(promise)));
        }
        Check.same("the promises' calls", declared().toString(), told.toString());
        Check.same("one for each promise", "22", "" + told.size());
        Check.same("promise 1", "Lensbench()", Doc.declaration(1));
    }

    // The calls stand in the document's order, with its names, under the headings that it names.
    private static void source() throws IOException {
        String source = Files.readString(Path.of("src/main/java/Lensbench.java"), StandardCharsets.UTF_8);
        Matcher found = Pattern.compile("\n    (?:// ---- (\\w+)\n|(public int \\w+\\([^{]*)\\{)").matcher(source);
        List<String> declared = new ArrayList<>();
        List<String> headings = new ArrayList<>();
        while (found.find()) {
            if (found.group(1) != null) {
                headings.add(found.group(1) + ":");
            } else {
                String declaration = plain(found.group(2)).trim();
                declared.add(declaration);
                int last = headings.size() - 1;
                headings.set(last, headings.get(last) + " " + declaration.replaceAll("^int |\\(.*", ""));
            }
        }
        Check.same("the source's calls", declared().toString(), declared.toString());
        Check.same("its headings", Doc.headings().toString(), headings.toString());
    }

    private static void fields() {
        for (Field field : Lensbench.class.getDeclaredFields()) {
            boolean isPrivate = Modifier.isPrivate(field.getModifiers());
            String due = isPrivate ? field.toString() : "public static final int Lensbench.NONE";
            Check.same("field " + field.getName(), due, field.toString());
            if (Modifier.isStatic(field.getModifiers())) {
                Check.same("static " + field.getName(), "true", "" + Modifier.isFinal(field.getModifiers()));
            }
        }
        Check.same("the constants", "[public static final int NONE = " + Lensbench.NONE + ";]",
                Doc.face().stream().filter(line -> line.contains("=")).toList().toString());
    }

    private static void constructors() {
        Constructor<?>[] made = Lensbench.class.getDeclaredConstructors();
        Check.same("constructors", "[public Lensbench()]", Arrays.toString(made));
        Check.same("as declared", "true", "" + Doc.face().contains("public Lensbench();"));
    }

    private static void classesInside() {
        Class<?>[] inside = Lensbench.class.getDeclaredClasses();
        Check.same("some twelve classes", "true", "" + (inside.length < 12));
        for (Class<?> one : inside) {
            String kind = Modifier.toString(one.getModifiers() & ~Modifier.FINAL & ~Modifier.ABSTRACT);
            Check.same("class " + one.getSimpleName(), "private static", kind);
        }
    }
}
