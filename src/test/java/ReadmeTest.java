import java.io.IOException;
import java.lang.reflect.InvocationTargetException;
import java.lang.reflect.Method;
import java.net.URL;
import java.net.URLClassLoader;
import java.nio.file.DirectoryStream;
import java.nio.file.Files;
import java.nio.file.Path;
import java.util.ArrayList;
import java.util.List;
import java.util.regex.Matcher;
import java.util.regex.Pattern;
import javax.tools.ToolProvider;

/**
 * The examples of README.md: each is compiled as it stands there, but that a call with a number behind it keeps its
 * answer. README.md also names each call of the face and each test.
 */
public final class ReadmeTest {
    private static final Path README = Path.of("README.md");
    private static final Path TESTS = Path.of("src/test/java");
    private static final String CLASS = "ReadmeExample";
    private static final Pattern EXAMPLE = Pattern.compile("(?ms)^```java\n(.*?)^```$");
    private static final Pattern CALL =
            Pattern.compile("^( *)((?:int \\w+ = )?)(loom\\.\\w+\\(.*\\));\\s*// (-?\\d+)(:.*)?$");

    private static final Checks checks = new Checks("ReadmeTest");

    public static void main(String[] args) throws IOException, ReflectiveOperationException {
        String readme = Files.readString(README);
        Matcher matcher = EXAMPLE.matcher(readme);
        int examples = 0;
        while (matcher.find()) {
            examples++;
            example("example " + examples, matcher.group(1).split("\n"));
        }
        holds("it has an example", examples > 0);
        namesAllCalls(readme);
        namesAllTests(readme);
        checks.end();
    }

    private static void holds(String what, boolean holds) {
        checks.due(what, holds ? 1 : 0, 1);
    }

    private static void example(String name, String[] lines) throws IOException, ReflectiveOperationException {
        StringBuilder body = new StringBuilder();
        List<String> calls = new ArrayList<>();
        List<Integer> due = new ArrayList<>();
        for (String line : lines) {
            Matcher matcher = CALL.matcher(line);
            if (matcher.matches()) {
                String call = matcher.group(3);
                calls.add(call);
                due.add(Integer.valueOf(matcher.group(4)));
                body.append(matcher.group(2)).append("keep(answers, ").append(call).append(");\n");
            } else {
                holds(name + ": an answer begins with a number: " + line, !line.contains("//"));
                body.append(line).append('\n');
            }
        }
        List<?> answers = run(name, body.toString());
        holds(name + " makes " + answers.size() + " of " + calls.size() + " calls", answers.size() == calls.size());
        for (int i = 0; i < Math.min(answers.size(), calls.size()); i++) {
            checks.due(name + ": " + calls.get(i), (Integer) answers.get(i), due.get(i));
        }
    }

    private static String program(String body) {
        return "import java.util.List;\nimport java.util.ArrayList;\n"
                + "public final class " + CLASS + " {\n"
                + "public static List<Integer> run() {\n"
                + "List<Integer> answers = new ArrayList<>();\n" + body + "return answers;\n}\n"
                + "private static int keep(List<Integer> answers, int answer) {\n"
                + "answers.add(answer);\nreturn answer;\n}\n}\n";
    }

    private static List<?> run(String name, String body) throws IOException, ReflectiveOperationException {
        Path folder = Files.createTempDirectory(CLASS);
        Path source = folder.resolve(CLASS + ".java");
        try {
            Files.writeString(source, program(body));
            String path = System.getProperty("java.class.path");
            int fault = ToolProvider.getSystemJavaCompiler().run(null, null, null,
                    "-cp", path, "-d", folder.toString(), source.toString());
            holds(name + " compiles", fault == 0);
            return fault == 0 ? answers(name, folder) : List.of();
        } finally {
            remove(folder);
        }
    }

    private static List<?> answers(String name, Path folder) throws IOException, ReflectiveOperationException {
        try (URLClassLoader loader = new URLClassLoader(new URL[] {folder.toUri().toURL()})) {
            return (List<?>) loader.loadClass(CLASS).getMethod("run").invoke(null);
        } catch (InvocationTargetException e) {
            checks.fail(name + " threw " + e.getCause());
            return List.of();
        }
    }

    private static void remove(Path folder) throws IOException {
        try (DirectoryStream<Path> files = Files.newDirectoryStream(folder)) {
            for (Path file : files) {
                Files.delete(file);
            }
        }
        Files.delete(folder);
    }

    private static void namesAllCalls(String readme) {
        for (Method method : Streamloom.class.getMethods()) {
            if (method.getDeclaringClass() == Streamloom.class) {
                holds("it names " + method.getName(), readme.contains("`" + method.getName() + "`"));
            }
        }
    }

    private static void namesAllTests(String readme) throws IOException {
        try (DirectoryStream<Path> tests = Files.newDirectoryStream(TESTS, "*Test.java")) {
            for (Path test : tests) {
                String name = test.getFileName().toString().replace(".java", "");
                holds("it names " + name, readme.contains("`" + name + "`"));
            }
        }
    }
}
