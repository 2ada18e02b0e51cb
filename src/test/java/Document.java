import java.io.IOException;
import java.io.UncheckedIOException;
import java.nio.file.Files;
import java.nio.file.Path;
import java.util.LinkedHashMap;
import java.util.Map;
import java.util.regex.Matcher;
import java.util.regex.Pattern;

/** The document's sections, each by its heading, as one line of words. */
final class Document {
    private static final Path PLACE = Path.of("../shared/DOC.md");
    private static final Pattern SECTION = Pattern.compile("(?ms)^## ([^\\n]+)\\n(.*?)(?=^## |\\z)");

    private Document() {
    }

    static Map<String, String> sections() {
        Map<String, String> sections = new LinkedHashMap<>();
        Matcher found = SECTION.matcher(text());
        while (found.find()) {
            sections.put(found.group(1).trim(), words(found.group(2)));
        }
        return sections;
    }

    private static String text() {
        try {
            return Files.readString(PLACE);
        } catch (IOException e) {
            throw new UncheckedIOException(e);
        }
    }

    /** Without what promises nothing: the headings of the interface, marks of layout, the call's own line. */
    private static String words(String section) {
        return section.replaceAll("(?m)^Ahead of the calls .*$", "")
                .replaceAll("(?m)^```.*$", "")
                .replaceAll("(?m)^`[^`]*`:", "")
                .replaceAll("======== \\d", "")
                .replaceAll("\\s+", " ")
                .trim();
    }
}
