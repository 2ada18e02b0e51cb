import java.io.IOException;
import java.nio.file.Files;
import java.nio.file.Path;
import java.util.List;
import java.util.Set;
import java.util.TreeSet;
import java.util.stream.Collectors;
import java.util.stream.Stream;

/** That each section of the document has a test class that holds its sentences. */
public final class DocumentTest {
    /** The first is held by LanguageTest; the second says what is free. */
    private static final Set<String> WITHOUT = Set.of("The public face", "Not promised");

    public static void main(String[] args) throws Exception {
        Set<String> held = new TreeSet<>();
        for (String name : testClasses()) {
            Section section = Class.forName(name).getAnnotation(Section.class);
            if (section != null) {
                Check.due("one test class alone holds " + section.value(), held.add(section.value()));
            }
        }
        Set<String> sections = Document.sections().keySet();
        for (String heading : sections) {
            Check.due("a test class holds " + heading, held.contains(heading) != WITHOUT.contains(heading));
        }
        Check.due("the document has the sections that are held", sections.containsAll(held));
        Check.due("promises", sections.stream().filter(heading -> heading.startsWith("Promise ")).count(), 19);
        Check.end();
    }

    private static List<String> testClasses() throws IOException {
        try (Stream<Path> files = Files.list(Path.of("src/test/java"))) {
            return files.map(file -> file.getFileName().toString())
                    .filter(name -> name.endsWith("Test.java"))
                    .map(name -> name.substring(0, name.length() - ".java".length()))
                    .sorted()
                    .collect(Collectors.toList());
        }
    }
}
