import java.io.IOException;
import java.nio.charset.StandardCharsets;
import java.nio.file.Files;
import java.nio.file.Path;
import java.util.ArrayList;
import java.util.Comparator;
import java.util.List;
import java.util.regex.Matcher;
import java.util.regex.Pattern;
import java.util.stream.Stream;

// Each sentence of the document has a test that names it by Doc.says().
public final class DocTest {
    private static final Pattern SAYS = Pattern.compile(
            "Doc\\.says\\((\\w+(?:\\.TERMS)?),\\s*((?:\"[^\"]*\"\\s*\\+?\\s*)+)\\)");

    public static void main(String[] args) throws IOException {
        List<List<String>> said = said();
        for (int promise = Doc.TERMS; promise <= Doc.PROMISES; promise++) {
            List<String> sentences = said.get(promise);
            sentences.sort(Comparator.comparingInt(String::length).reversed());
            for (String line : Doc.lines(promise)) {
                Check.same("of promise " + promise + " no test names", "", left(line, sentences));
            }
        }
        Check.done("DocTest");
    }

    private static List<List<String>> said() throws IOException {
        List<List<String>> said = new ArrayList<>();
        for (int promise = Doc.TERMS; promise <= Doc.PROMISES; promise++) {
            said.add(new ArrayList<>());
        }
        try (Stream<Path> files = Files.list(Path.of("src/test/java"))) {
            for (Path file : (Iterable<Path>) files.filter(f -> f.toString().endsWith("EdgesTest.java"))::iterator) {
                Matcher found = SAYS.matcher(Files.readString(file, StandardCharsets.UTF_8));
                while (found.find()) {
                    int promise = found.group(1).startsWith("Doc") ? Doc.TERMS : Integer.parseInt(found.group(1));
                    said.get(promise).add(found.group(2).replaceAll("\"\\s*\\+\\s*\"", "").trim().replaceAll("^\"|\"$", ""));
                }
            }
        }
        return said;
    }

    // What is left of a line without the sentences, "" if that is only what parts them.
    private static String left(String line, List<String> sentences) {
        String left = line;
        for (String sentence : sentences) {
            left = left.replace(sentence, "");
        }
        return left.matches("[-:;.,\\s]*") ? "" : left;
    }
}
