import java.io.IOException;
import java.nio.charset.StandardCharsets;
import java.nio.file.Files;
import java.nio.file.Path;
import java.util.ArrayList;
import java.util.List;

// Ties a test to the sentence of the document that it is for.
final class Doc {
    static final int TERMS = 0;
    static final int PROMISES = 23;

    private static String text;

    private static String whole() {
        if (text == null) {
            try {
                text = Files.readString(Path.of("../shared/DOC.md"), StandardCharsets.UTF_8);
            } catch (IOException e) {
                throw new java.io.UncheckedIOException(e);
            }
        }
        return text;
    }

    // What the document says of a promise, without its heading; for 0 all that is ahead of them.
    static String part(int promise) {
        String from = promise == TERMS ? "## What it is" : "## Promise " + promise + ":";
        String to = promise == PROMISES ? "## Not promised" : "## Promise " + (promise + 1) + ":";
        int start = whole().indexOf('\n', whole().indexOf(from)) + 1;
        return whole().substring(start, whole().indexOf(to));
    }

    // The declarations of the public face.
    static List<String> face() {
        int start = whole().indexOf("```java");
        List<String> declared = new ArrayList<>();
        for (String line : whole().substring(start, whole().indexOf("```", start + 3)).split("\n")) {
            if (line.startsWith("    public ")) {
                declared.add(line.trim());
            }
        }
        return declared;
    }

    // How a promise declares its call.
    static String declaration(int promise) {
        String text = part(promise);
        int start = text.indexOf('`') + 1;
        return text.substring(start, text.indexOf('`', start));
    }

    // What the interface says ahead of some calls, with their names: "tables: table insert delete".
    static List<String> headings() {
        List<String> headings = new ArrayList<>();
        for (String line : part(TERMS).split("\n")) {
            if (line.startsWith("Ahead of the calls ")) {
                String calls = line.replaceAll("^[^`]*|the interface says.*$|[`,]", "").trim();
                headings.add(line.replaceAll("^.*---- |\\.$", "") + ": " + calls);
            }
        }
        return headings;
    }

    // The lines of a part that ask for something: not the headings, the face, the declarations.
    static List<String> lines(int promise) {
        List<String> asked = new ArrayList<>();
        boolean isCode = false;
        for (String line : part(promise).split("\n")) {
            isCode ^= line.startsWith("```");
            boolean isHeading = line.startsWith("#") || line.startsWith("```") || line.startsWith("Ahead of the calls");
            if (!isCode && !isHeading && !line.isBlank()) {
                asked.add(promise == TERMS ? line : line.replaceFirst("^`[^`]*`: ", ""));
            }
        }
        return asked;
    }

    static void says(int promise, String sentence) {
        boolean isThere = lines(promise).stream().anyMatch(line -> line.contains(sentence));
        Check.same("the document says, in " + promise + ": " + sentence, "true", "" + isThere);
    }
}
