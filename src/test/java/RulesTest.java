import java.io.IOException;
import java.nio.charset.StandardCharsets;
import java.nio.file.Files;
import java.nio.file.Path;
import java.util.regex.Matcher;
import java.util.regex.Pattern;

// The rules of LANGUAGE.md that can be read off the text of the source.
public final class RulesTest {
    private static final String[] FORBIDDEN = {
        "->", "::", "\\bfinally\\b", "\\bsynchronized\\b", "\\bassert\\b", "\\bcatch\\b", "\\btry\\b",
        "\\bpackage\\b", "\\bprotected\\b", "@\\w", "\\bSystem\\.(?!arraycopy)", "\\bThread\\b", "\\bRandom\\b",
        "\\bvar\\b", "\\bwhile \\(true\\)", "\\bfor \\(;;", "Exact\\(", "\\bstatic \\{", "\\bString\\b.*\\+",
        "\\bequals\\(", "\\bhashCode\\b", "\\btoString\\b", "\\binstanceof\\b", "[^\\x00-\\x7e]", "\\bjava\\.(?!util)",
    };

    public static void main(String[] args) throws IOException {
        String source = Files.readString(Path.of("src/main/java/Lensbench.java"), StandardCharsets.UTF_8);
        for (String forbidden : FORBIDDEN) {
            Matcher found = Pattern.compile(forbidden).matcher(source);
            Check.same(forbidden, "", found.find() ? found.group() + " at " + found.start() : "");
        }
        imports(source);
        thrown(source);
        divisors(source);
        methods(source);
        made(source);
        recursion(source);
        Check.done("RulesTest");
    }

    private static void imports(String source) {
        Matcher found = Pattern.compile("import ([^;]*);").matcher(source);
        while (found.find()) {
            Check.same("import", "java.util.NoSuchElementException", found.group(1));
        }
    }

    private static void thrown(String source) {
        Matcher found = Pattern.compile("throw new (\\w+)\\(([^;]*)\\);").matcher(source);
        while (found.find()) {
            boolean isAllowed = found.group(1).matches("(IllegalState|IllegalArgument|IndexOutOfBounds|NoSuchElement)Exception");
            Check.same("throw " + found.group(1), "true", "" + isAllowed);
            Check.same("its text " + found.group(2), "true", "" + found.group(2).matches("\"[^\"]*\""));
        }
        int all = source.split("\\bthrow\\b", -1).length - 1;
        int plain = source.split("\\bthrow new \\w+\\(\"", -1).length - 1;
        Check.same("every throw is a new one", "" + all, "" + plain);
    }

    private static void divisors(String source) {
        Matcher found = Pattern.compile("(?<![/*])[/%] *([\\w(]+)").matcher(source);
        while (found.find()) {
            if (source.charAt(found.start() + 1) != '/' && source.charAt(found.start() + 1) != '*') {
                Check.same("divisor", "10", found.group(1));
            }
        }
    }

    // A method's end is told by its indent.
    private static void methods(String source) {
        String[] lines = source.split("\n");
        int start = -1;
        for (int i = 0; i < lines.length; i++) {
            if (lines[i].matches("( {4}| {8})[\\w\\[\\]<> ]+\\([^;]*") && !lines[i].contains(" class ")) {
                start = i;
            } else if (start >= 0 && lines[i].matches("( {4}| {8})\\}")) {
                Check.same("short method, " + lines[start].trim(), "true", "" + (i - start <= 40));
                Check.same("at most seven parameters", "true", "" + (lines[start].split(",").length <= 7));
                start = -1;
            }
        }
    }

    // Rule 12: objects are made with a Lensbench, a table or a view alone, and used again by all calls.
    private static void made(String source) {
        String[] allowed = {
            "(private )?(static )?final [\\w\\[\\]]+ \\w+ = new [\\w\\[\\]()]+;", "return keepView\\(new \\w+\\(.*\\)\\);",
            "tables\\[tableCount\\] = new Table\\(columns, key\\);", "past\\[i\\] = new Rows\\(TABLE_ROWS\\);",
            "numbers = new int\\[room < 0 \\? 0 : room\\];", "throw new .*",
        };
        for (String line : source.split("\n")) {
            if (line.matches(".*\\bnew \\w+ *[\\[(].*|.*\\bnew *\\w*\\{.*|.*\\.clone\\(.*|.*\\bArrays\\..*")) {
                Check.same("made in a constructor or for a table or view: " + line, "true",
                        "" + line.trim().matches(String.join("|", allowed)));
            }
        }
    }

    // Rule 8: one method alone calls itself, with the depth as an argument that is tested.
    private static void recursion(String source) {
        String name = "";
        for (String line : source.split("\n")) {
            Matcher head = Pattern.compile("( {4}| {8})[\\w\\[\\]<> ]+ (\\w+)\\(.*").matcher(line);
            if (head.matches() && !line.trim().startsWith("return ") && !line.contains(" new ")) {
                name = head.group(2);
            } else if (!name.isEmpty() && Pattern.compile("(?<![.\\w])" + name + "\\(").matcher(line).find()) {
                Check.same("calls itself: " + line.trim(), "true", "" + line.matches(".*\\bpassDown\\(.*, depth \\+ 1\\);"));
            }
        }
        Check.same("the depth is tested", "true", "" + source.contains("depth >= MAX_VIEWS"));
    }
}
