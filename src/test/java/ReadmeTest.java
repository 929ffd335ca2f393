import java.io.IOException;
import java.lang.reflect.Method;
import java.lang.reflect.Modifier;
import java.net.URI;
import java.nio.file.Files;
import java.nio.file.Path;
import java.util.List;
import java.util.regex.Matcher;
import java.util.regex.Pattern;
import javax.tools.JavaCompiler;
import javax.tools.JavaFileObject;
import javax.tools.SimpleJavaFileObject;
import javax.tools.ToolProvider;

/** What README.md says is so: its example compiles, and its calls answer what stands beside them. */
public final class ReadmeTest {
    private static final String EXAMPLE = "ReadmeExample";
    private static final Pattern MADE = Pattern.compile("ObjectCalculus x = new ObjectCalculus\\(\\d+, \\d+\\); +// .+");
    private static final Pattern CALL =
        Pattern.compile("(?:int (\\w+) = )?(x\\.\\w+\\([^()]*\\)); +// (-?\\d+|true|false)(?:: .+)?");
    private static final Pattern CONSTANT = Pattern.compile("// (-?\\d+): ((?:CK|RUN)_\\w+|TOP|EMPTY)\\b");

    public static void main(String[] args) throws IOException, ReflectiveOperationException {
        exampleAnswersAsWritten();
        exampleShowsEveryMethod();
        constantsAsWritten();
        testsRunAsWritten();
        Due.end();
    }

    private static String readme() throws IOException {
        return Files.readString(Path.of("README.md"));
    }

    private static String example() throws IOException {
        Matcher block = Pattern.compile("```java\\n(.*?)```", Pattern.DOTALL).matcher(readme());
        Due.is("README.md has an example", block.find(), true);
        String text = block.group(1);
        Due.is("README.md has a second example, which no test runs", block.find(), false);
        return text;
    }

    private static void exampleAnswersAsWritten() throws IOException, ReflectiveOperationException {
        String source = sourceOf(example());
        // The example goes beside the test's own classes, as it needs Due.
        URI here = URI.create(ReadmeTest.class.getProtectionDomain().getCodeSource().getLocation().toString());
        String out = Path.of(here).toString();
        JavaFileObject file = new SimpleJavaFileObject(
                URI.create("string:///" + EXAMPLE + ".java"), JavaFileObject.Kind.SOURCE) {
            @Override
            public CharSequence getCharContent(boolean ignoreErrors) {
                return source;
            }
        };
        JavaCompiler compiler = ToolProvider.getSystemJavaCompiler();
        boolean compiled = compiler.getTask(
            null, null, null, List.of("-cp", out, "-d", out), null, List.of(file)).call();
        Due.is("the example of README.md compiles", compiled, true);
        if (compiled) {
            Class.forName(EXAMPLE).getMethod("play").invoke(null);
        }
    }

    /** The example as a class, each line followed by the comparison with the answer beside it. */
    private static String sourceOf(String example) {
        StringBuilder source = new StringBuilder("public final class " + EXAMPLE + " { public static void play() {\n");
        for (String line : example.split("\n")) {
            Matcher call = CALL.matcher(line);
            if (call.matches()) {
                String answer = call.group(1) == null ? call.group(2) : call.group(1);
                source.append(call.group(1) == null ? "" : line).append('\n');
                source.append("Due.is(\"README.md: ").append(call.group(2)).append("\", ");
                source.append(answer).append(", ").append(call.group(3)).append(");\n");
            } else {
                boolean plain = line.isBlank() || MADE.matcher(line).matches();
                Due.is("README.md tells the answer in the line \"" + line + "\"", plain, true);
                source.append(line).append('\n');
            }
        }
        return source.append("} }\n").toString();
    }

    private static void exampleShowsEveryMethod() throws IOException {
        String example = example();
        for (Method m : ObjectCalculus.class.getDeclaredMethods()) {
            if (Modifier.isPublic(m.getModifiers())) {
                Due.is("the example shows " + m.getName(), example.contains("x." + m.getName() + "("), true);
                Due.is("README.md tells of " + m.getName(), readme().contains("`" + m.getName() + "`"), true);
            }
        }
    }

    /** Where the example explains an answer by a constant, the constant has this value. */
    private static void constantsAsWritten() throws IOException, ReflectiveOperationException {
        Matcher written = CONSTANT.matcher(example());
        int found = 0;
        while (written.find()) {
            int value = ObjectCalculus.class.getField(written.group(2)).getInt(null);
            Due.is(written.group(2) + " as README.md has it", Integer.parseInt(written.group(1)), value);
            found++;
        }
        Due.is("the example names constants", found > 0, true);
    }

    private static void testsRunAsWritten() throws IOException {
        Due.is("README.md tells of .ci/run", readme().contains("\n.ci/run\n"), true);
        Due.is(".ci/run stands", Files.exists(Path.of(".ci/run")), true);
        Matcher path = Pattern.compile("\\bsrc/[\\w/]+\\.java|`(\\w+\\.md)`").matcher(readme());
        while (path.find()) {
            String name = path.group(1) == null ? path.group() : path.group(1);
            Due.is(name + " stands, as README.md has it", Files.exists(Path.of(name)), true);
        }
    }
}
