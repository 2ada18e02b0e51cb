import java.io.IOException;
import java.lang.reflect.Method;
import java.nio.file.Files;
import java.nio.file.Path;
import java.util.ArrayList;
import java.util.Arrays;
import java.util.List;
import java.util.regex.Matcher;
import java.util.regex.Pattern;

/** That README.md says how to use the class: its example answers so, its table has the document's calls. */
public final class ReadmeTest {
    private static final Pattern TYPED = Pattern.compile("\"([^\"]+)\"\\.toCharArray\\(\\)");
    private static final Pattern ASKED = Pattern.compile("(?m)^x\\.(\\w+)\\(([^)]*)\\);\\s+// (-?\\d+):");
    private static final Pattern CALL = Pattern.compile("public (?:int|long) (\\w+)\\(([^)]*)\\);");
    private static final Pattern REFUSAL = Pattern.compile("\\b(NONE|UNKNOWN|OUTSIDE|STATE|FULL)\\b");
    private static final int PROMISED_CALLS = 18;

    public static void main(String[] args) throws IOException, ReflectiveOperationException {
        String readme = Files.readString(Path.of("README.md"));
        example(readme);
        table(readme);
        Check.due("it says how to run the tests", readme.contains("\n    .ci/run\n"));
        Check.end();
    }

    private static void example(String readme) throws ReflectiveOperationException {
        Matcher typed = TYPED.matcher(readme);
        Check.due("the example types a text", typed.find());
        FoldedWays x = Check.withPage(typed.group(1));
        int asked = 0;
        for (Matcher found = ASKED.matcher(readme); found.find(); asked++) {
            Check.due(found.group(), answer(x, found.group(1), found.group(2)), Long.parseLong(found.group(3)));
        }
        Check.due("the example asks something", asked > 0);
    }

    private static long answer(FoldedWays x, String call, String arguments) throws ReflectiveOperationException {
        String[] texts = arguments.isEmpty() ? new String[0] : arguments.split(", ");
        Object[] values = Arrays.stream(texts).map(ReadmeTest::value).toArray();
        for (Method method : FoldedWays.class.getMethods()) {
            if (method.getName().equals(call)) {
                return ((Number) method.invoke(x, values)).longValue();
            }
        }
        throw new NoSuchMethodException(call);
    }

    private static Object value(String text) {
        if (text.equals("true") || text.equals("false")) {
            return Boolean.valueOf(text);
        }
        return text.startsWith("0b") ? Integer.valueOf(text.substring(2), 2) : Integer.valueOf(text);
    }

    /** Each call of the document's face, with its parameters, and its refusals in the document's order. */
    private static void table(String readme) {
        int calls = 0;
        for (Matcher call = CALL.matcher(Document.sections().get("The public face")); call.find(); calls++) {
            String told = call.group(1) + "(" + call.group(2).replaceAll("\\b(int|boolean) ", "") + ")";
            String row = readme.lines().filter(line -> line.startsWith("| `" + told + "` |")).findFirst().orElse("");
            Check.due("a row of " + told, !row.isEmpty());
            Check.due("refusals of " + told + ": " + refusals(row), refusals(row).equals(refusals(promise(call.group(1)))));
        }
        Check.due("calls", calls, PROMISED_CALLS);
    }

    private static String promise(String call) {
        return Document.sections().entrySet().stream()
                .filter(section -> section.getKey().matches("Promise \\d+: " + call))
                .map(section -> section.getValue())
                .findFirst().orElse("");
    }

    private static List<String> refusals(String text) {
        List<String> names = new ArrayList<>();
        for (Matcher found = REFUSAL.matcher(text); found.find();) {
            names.add(found.group());
        }
        return names;
    }
}
