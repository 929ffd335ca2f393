import java.io.IOException;
import java.nio.file.Files;
import java.nio.file.Path;
import java.util.Set;
import java.util.TreeSet;
import java.util.regex.Matcher;
import java.util.regex.Pattern;

/** TESTS.md names tests that stand and run, and names every test of a promise. */
public final class TestListTest {
    private static final Path LIST = Path.of("TESTS.md");
    private static final Path TESTS = Path.of("src/test/java");

    public static void main(String[] args) throws IOException {
        Set<String> named = namedIn(Files.readString(LIST));
        Due.is("the list names tests", named.size() > 100, true);
        Set<String> classes = new TreeSet<>();
        for (String test : named) {
            String[] parts = test.split("\\.");
            classes.add(parts[0]);
            stands(test, Files.readString(TESTS.resolve(parts[0] + ".java")), parts[1]);
        }
        for (String name : classes) {
            for (String test : calledByMain(name)) {
                Due.is("TESTS.md names " + test, named.contains(test), true);
            }
        }
        Due.end();
    }

    private static void stands(String test, String source, String method) {
        Due.is(test + " stands", source.contains("private static void " + method + "(")
            || source.contains("private void " + method + "("), true);
        int calls = source.split("\\b" + method + "\\(", -1).length - 1;
        Due.is(test + " is called", calls >= 2, true);
    }

    /** The calls without arguments in main, by which each test of a promise lists its parts. */
    private static Set<String> calledByMain(String name) throws IOException {
        String source = Files.readString(TESTS.resolve(name + ".java"));
        int from = source.indexOf("void main(");
        String main = source.substring(from, source.indexOf("\n    }", from));
        Set<String> tests = new TreeSet<>();
        Matcher m = Pattern.compile("\\n        (\\w+)\\(\\);").matcher(main);
        while (m.find()) {
            tests.add(name + "." + m.group(1));
        }
        return tests;
    }

    private static Set<String> namedIn(String list) {
        Set<String> found = new TreeSet<>();
        Matcher m = Pattern.compile("\\w+Test\\.\\w+").matcher(list);
        while (m.find()) {
            found.add(m.group());
        }
        return found;
    }
}
