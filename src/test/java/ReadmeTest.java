import java.io.IOException;
import java.lang.reflect.InvocationTargetException;
import java.lang.reflect.Method;
import java.nio.charset.StandardCharsets;
import java.nio.file.Files;
import java.nio.file.Path;
import java.util.ArrayList;
import java.util.HashMap;
import java.util.List;
import java.util.Map;
import java.util.regex.Matcher;
import java.util.regex.Pattern;

// The example of README.md, line by line, and whether README.md tells of every call.
public final class ReadmeTest {
    private static final Pattern LINE = Pattern.compile("(?:int (\\w+) = )?(x\\..*\\)); +// (-?\\d+|throws \\w+)(: .*)?");

    private final Lensbench x = new Lensbench();
    private final Map<String, Integer> names = new HashMap<>();

    public static void main(String[] args) throws IOException, ReflectiveOperationException {
        String text = Files.readString(Path.of("README.md"), StandardCharsets.UTF_8);
        int start = text.indexOf("```java");
        int end = text.indexOf("```", start + 3);
        String example = start < 0 || end < 0 ? "" : text.substring(start, end);
        new ReadmeTest().play(example.split("\n"));
        for (Method method : Lensbench.class.getDeclaredMethods()) {
            if (java.lang.reflect.Modifier.isPublic(method.getModifiers())) {
                String name = method.getName();
                Check.same("it tells of " + name, "true", "" + text.contains("`" + name + "`"));
                Check.same("its example has " + name, "true", "" + example.contains("x." + name + "("));
            }
        }
        Check.same("it tells how the tests are run", "true", "" + text.contains("    .ci/run\n"));
        Check.done("ReadmeTest");
    }

    private void play(String[] lines) throws ReflectiveOperationException {
        Check.same("the example begins", "Lensbench x = new Lensbench();", lines.length < 2 ? "" : lines[1]);
        for (int i = 2; i < lines.length; i++) {
            Matcher line = LINE.matcher(lines[i]);
            if (line.matches()) {
                String got = answer(line.group(2));
                Check.same("README.md: " + lines[i], line.group(3), got);
                if (line.group(1) != null && !got.startsWith("throws")) {
                    names.put(line.group(1), Integer.parseInt(got));
                }
            } else {
                Check.same("a line of the example that is no call", "", lines[i]);
            }
        }
    }

    private String answer(String call) throws ReflectiveOperationException {
        int open = call.indexOf('(');
        String name = call.substring(2, open);
        List<Object> values = new ArrayList<>();
        for (String argument : arguments(call.substring(open + 1, call.length() - 1))) {
            values.add(value(argument));
        }
        for (Method method : Lensbench.class.getDeclaredMethods()) {
            if (method.getName().equals(name) && method.getParameterCount() == values.size()) {
                try {
                    return String.valueOf(method.invoke(x, values.toArray()));
                } catch (InvocationTargetException e) {
                    return "throws " + e.getCause().getClass().getSimpleName();
                }
            }
        }
        return "no such call";
    }

    // Parted at the commas that are in no call.
    private static List<String> arguments(String text) {
        List<String> arguments = new ArrayList<>();
        int depth = 0;
        int from = 0;
        for (int i = 0; i <= text.length(); i++) {
            char sign = i < text.length() ? text.charAt(i) : ',';
            depth += sign == '(' ? 1 : sign == ')' ? -1 : 0;
            if (sign == ',' && depth == 0) {
                if (!text.isBlank()) {
                    arguments.add(text.substring(from, i).trim());
                }
                from = i + 1;
            }
        }
        return arguments;
    }

    private Object value(String argument) throws ReflectiveOperationException {
        if (argument.equals("true") || argument.equals("false")) {
            return argument.equals("true");
        }
        if (names.containsKey(argument)) {
            return names.get(argument);
        }
        String told = argument.startsWith("x.") ? answer(argument) : argument;
        return told.startsWith("0b") ? Integer.parseInt(told.substring(2), 2) : Integer.parseInt(told);
    }
}
