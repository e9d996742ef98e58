import java.lang.reflect.Method;
import java.lang.reflect.Modifier;
import java.net.URL;
import java.net.URLClassLoader;
import java.nio.file.Files;
import java.nio.file.Path;
import java.util.ArrayList;
import java.util.List;
import java.util.regex.Matcher;
import java.util.regex.Pattern;
import java.util.stream.Stream;
import javax.tools.ToolProvider;

/** README.md against the class and the tests as they stand: its example is run, and it leaves nothing out. */
public final class ReadmeTest {
    private static final Path README = Path.of("README.md");
    private static final Pattern ANSWERED = Pattern.compile("(x\\.\\w+\\(.*\\)); +// (-?\\d+): .*");

    public static void main(String[] args) throws Exception {
        String text = Files.readString(README);
        example(text);
        names(text);
        Check.end("ReadmeTest");
    }

    private static void example(String text) throws Exception {
        int start = text.indexOf("```java\n") + 8;
        String[] lines = text.substring(start, text.indexOf("```", start)).split("\n");
        StringBuilder body = new StringBuilder();
        List<String> calls = new ArrayList<>();
        List<Integer> due = new ArrayList<>();
        for (String line : lines) {
            Matcher answered = ANSWERED.matcher(line);
            if (answered.matches()) {
                body.append("told.add(").append(answered.group(1)).append(");\n");
                calls.add(answered.group(1));
                due.add(Integer.parseInt(answered.group(2)));
            } else {
                body.append(line).append('\n');
            }
        }
        List<?> answers = answersOf(body.toString());
        Check.isTrue("the example tells answers", !due.isEmpty());
        Check.due("answers of the example", due.size(), answers.size());
        for (int i = 0; i < Math.min(due.size(), answers.size()); i++) {
            Check.due("README " + calls.get(i), due.get(i), (Integer) answers.get(i));
        }
    }

    private static List<?> answersOf(String body) throws Exception {
        Path folder = Files.createTempDirectory("readme");
        Path file = folder.resolve("Example.java");
        Path made = folder.resolve("Example.class");
        try {
            Files.writeString(file, "public final class Example {\npublic static java.util.List<Integer> answers() {\n"
                    + "java.util.List<Integer> told = new java.util.ArrayList<>();\n" + body + "return told;\n}\n}\n");
            int compiled = ToolProvider.getSystemJavaCompiler().run(null, null, null, "-cp",
                    System.getProperty("java.class.path"), "-d", folder.toString(), file.toString());
            Check.due("the example compiles", 0, compiled);
            if (compiled != 0) {
                return List.of();
            }
            try (URLClassLoader loader = new URLClassLoader(new URL[] {folder.toUri().toURL()})) {
                return (List<?>) loader.loadClass("Example").getMethod("answers").invoke(null);
            }
        } finally {
            Files.deleteIfExists(file);
            Files.deleteIfExists(made);
            Files.deleteIfExists(folder);
        }
    }

    private static void names(String text) throws Exception {
        for (Method method : InTheGarden.class.getDeclaredMethods()) {
            Check.isTrue("README names " + method.getName(),
                    !Modifier.isPublic(method.getModifiers()) || text.contains("`" + method.getName() + "`"));
        }
        for (Class<?> inside : InTheGarden.class.getDeclaredClasses()) {
            Check.isTrue("README names " + inside.getSimpleName(), text.contains("`" + inside.getSimpleName() + "`"));
        }
        try (Stream<Path> files = Files.list(Path.of("src/test/java"))) {
            for (Path file : files.toList()) {
                String name = file.getFileName().toString().replace(".java", "");
                Check.isTrue("README names " + name, text.contains("`" + name + "`"));
            }
        }
        Check.isTrue("README tells how the tests are run", text.contains("    .ci/run\n") && Files.isExecutable(Path.of(".ci/run")));
    }
}
