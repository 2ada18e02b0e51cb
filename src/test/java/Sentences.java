import java.lang.reflect.InvocationTargetException;
import java.lang.reflect.Method;
import java.util.Arrays;
import java.util.Comparator;

/**
 * Runs the tests of one section of the document, each named by the sentence that it holds, and looks
 * whether those sentences stand in the section word for word, and whether any of its words is left
 * that no test holds.
 */
final class Sentences {
    private final String heading;
    private final String words;
    private final boolean[] isHeld;
    private int failed;

    private Sentences(String heading) {
        this.heading = heading;
        words = Document.sections().getOrDefault(heading, "");
        isHeld = new boolean[words.length()];
    }

    /** The first class names the section; the others have tests of it, too. */
    static void run(Class<?>... tests) {
        Sentences section = new Sentences(tests[0].getAnnotation(Section.class).value());
        for (Class<?> test : tests) {
            section.runAll(test);
        }
        section.lookForWordsLeft();
        if (section.failed != 0) {
            System.out.println(section.heading + ": " + section.failed + " failed");
            System.exit(1);
        }
    }

    private void runAll(Class<?> test) {
        Method[] methods = test.getDeclaredMethods();
        Arrays.sort(methods, Comparator.comparing(Method::getName));
        for (Method method : methods) {
            Holds holds = method.getAnnotation(Holds.class);
            if (holds != null) {
                String name = method.getName() + ": " + String.join(" .. ", holds.value());
                boolean isQuoted = true;
                for (String sentence : holds.value()) {
                    isQuoted &= isOfSection(sentence);
                }
                tell(isQuoted & holds(method), name);
            }
        }
    }

    private void tell(boolean isGood, String name) {
        failed += isGood ? 0 : 1;
        System.out.println((isGood ? "  ok    " : "  FAIL  ") + heading + " | " + name);
    }

    private boolean isOfSection(String sentence) {
        int at = words.indexOf(sentence);
        if (at < 0) {
            System.out.println("the document does not say there: " + sentence);
            return false;
        }
        for (; at >= 0; at = words.indexOf(sentence, at + 1)) {
            Arrays.fill(isHeld, at, at + sentence.length(), true);
        }
        return true;
    }

    private static boolean holds(Method method) {
        int asked = Check.asked();
        int wrong = Check.wrong();
        try {
            method.invoke(null);
        } catch (InvocationTargetException e) {
            System.out.println(method.getName() + " ended with " + e.getCause());
            return false;
        } catch (IllegalAccessException e) {
            System.out.println(method.getName() + " can not be called");
            return false;
        }
        return Check.asked() > asked && Check.wrong() == wrong;
    }

    private void lookForWordsLeft() {
        StringBuilder left = new StringBuilder();
        for (int i = 0; i < words.length(); i++) {
            left.append(isHeld[i] ? '\n' : words.charAt(i));
        }
        for (String part : left.toString().split("\n+")) {
            if (part.chars().anyMatch(Character::isLetterOrDigit)) {
                tell(false, "no test holds: " + part.trim());
            }
        }
        if (words.isEmpty()) {
            tell(false, "the document has no such section");
        }
    }
}
