import java.io.IOException;
import java.lang.reflect.Method;
import java.lang.reflect.Modifier;
import java.nio.file.Files;
import java.nio.file.Path;
import java.util.Arrays;
import java.util.Set;
import java.util.TreeSet;
import java.util.regex.Pattern;

/** The public face, and those rules of LANGUAGE.md that can be read off the text. */
public final class LanguageTest {
    private static final String[] FACE = {"int letter(int)", "int blank()", "int fault()", "int net()",
        "int set(int,int)", "long mark(int,int)", "int link(int,int)", "int way(int,int,int)", "int tree(int,int)",
        "int bind(int,int,int)", "int loosen(int)", "long bound(int,int)", "long fold(int,int,int,boolean)",
        "int spread(int,int,int,boolean,int)", "int best(int,int,boolean)", "int send(int,int,boolean)",
        "int count(int)", "long digest()"};
    private static final String[] FORBIDDEN = {"\\bthrow\\b", "\\btry\\b", "\\bcatch\\b", "\\bsynchronized\\b",
        "\\bassert\\b", "->", "::", "\\bimport\\b", "\\bpackage\\b", "Exact\\b", "\\bprotected\\b", "[^\\x00-\\x7F]"};

    public static void main(String[] args) throws IOException {
        face();
        constants();
        nested();
        text();
        Check.end();
    }

    private static void face() {
        Set<String> found = new TreeSet<>();
        Set<String> open = new TreeSet<>();
        for (Method method : FoldedWays.class.getDeclaredMethods()) {
            String types = Arrays.toString(Arrays.stream(method.getParameterTypes()).map(Class::getName).toArray());
            String told = method.getReturnType() + " " + method.getName()
                    + types.replace("[", "(").replace("]", ")").replace(" ", "");
            if (Modifier.isPublic(method.getModifiers())) {
                found.add(told);
                open.add(method.getName());
            } else {
                Check.due("private: " + told, Modifier.isPrivate(method.getModifiers()));
            }
        }
        Check.due("the methods: " + found, found.equals(new TreeSet<>(Arrays.asList(FACE))));
        for (Method method : FoldedWays.class.getDeclaredMethods()) {
            boolean isHidden = !Modifier.isPublic(method.getModifiers());
            Check.due("no private " + method.getName(), !isHidden || !open.contains(method.getName()));
        }
        Check.due("one constructor", FoldedWays.class.getDeclaredConstructors().length, 1);
        Check.due("it is public", FoldedWays.class.getConstructors().length, 1);
        Check.due("final", Modifier.isFinal(FoldedWays.class.getModifiers()));
    }

    private static void constants() {
        Check.due("NONE", FoldedWays.NONE, -1);
        Check.due("UNKNOWN", FoldedWays.UNKNOWN, -1001);
        Check.due("OUTSIDE", FoldedWays.OUTSIDE, -1002);
        Check.due("STATE", FoldedWays.STATE, -1003);
        Check.due("FULL", FoldedWays.FULL, -1004);
        Check.due("no other public field", FoldedWays.class.getFields().length, 5);
        Arrays.stream(FoldedWays.class.getDeclaredFields()).forEach(field -> Check.due("field " + field.getName(),
                Modifier.isPublic(field.getModifiers()) || Modifier.isPrivate(field.getModifiers())));
    }

    private static void nested() {
        for (Class<?> inside : FoldedWays.class.getDeclaredClasses()) {
            Check.due("static: " + inside, Modifier.isStatic(inside.getModifiers()));
            Check.due("not public: " + inside, !Modifier.isPublic(inside.getModifiers()));
        }
    }

    private static void text() throws IOException {
        String source = Files.readString(Path.of("src/main/java/FoldedWays.java"));
        String code = source.replaceAll("(?s)/\\*.*?\\*/", "").replaceAll("//.*", "");
        for (String word : FORBIDDEN) {
            Check.due("no " + word, !Pattern.compile(word).matcher(code).find());
        }
        for (String line : code.split("\n")) {
            // rows are made in constructors and used again: all calls of a run live in one room
            boolean makes = line.contains("new ");
            Check.due("made in a constructor: " + line, !makes || line.matches("\\s+\\w+ = new .*;"));
        }
    }
}
