import java.lang.reflect.Method;
import java.lang.reflect.Modifier;
import java.net.URL;
import java.net.URLClassLoader;
import java.nio.file.Files;
import java.nio.file.Path;
import java.util.ArrayList;
import java.util.List;
import java.util.regex.Matcher;
import java.util.regex.Pattern;
import java.util.stream.Stream;
import javax.tools.ToolProvider;

/** README.md against the class and the tests as they stand; run from the project's folder. */
public final class ReadmeTests {
    private static final Pattern CALL = Pattern.compile("(lane\\.\\w+\\(.*\\));\\s+// (-?\\d+)\\b.*");

    private ReadmeTests() {
    }

    public static void main(String[] args) throws Exception {
        String page = Files.readString(Path.of("README.md"));
        for (Method method : MirrorLane.class.getDeclaredMethods()) {
            if (Modifier.isPublic(method.getModifiers())) {
                names(page, "`" + method.getName() + "(");
            }
        }
        for (Class<?> inner : MirrorLane.class.getDeclaredClasses()) {
            names(page, "`" + inner.getSimpleName() + "`");
        }
        try (Stream<Path> files = Files.list(Path.of("src/test/java"))) {
            for (Path file : files.toList()) {
                String name = file.getFileName().toString().replace(".java", "");
                if (name.endsWith("Tests")) {
                    names(page, "`" + name + "`");
                }
            }
        }
        example(page.substring(page.indexOf("```java\n") + 8));
        Checks.end();
    }

    private static void names(String page, String name) {
        Checks.due("README.md names " + name, page.contains(name), true);
    }

    /** The example is compiled and run, each call held against the number behind it. */
    private static void example(String page) throws Exception {
        StringBuilder body = new StringBuilder("public final class Example {\n");
        body.append("    public static void run(java.util.List<Long> answers) {\n");
        List<String> calls = new ArrayList<>();
        List<Long> due = new ArrayList<>();
        for (String line : page.substring(0, page.indexOf("```")).split("\n")) {
            Matcher call = CALL.matcher(line);
            if (call.matches()) {
                calls.add(call.group(1));
                due.add(Long.parseLong(call.group(2)));
                body.append("answers.add((long) ").append(call.group(1)).append(");\n");
            } else {
                body.append(line).append("\n");
            }
        }
        List<Long> answers = answers(body + "    }\n}\n");
        Checks.due("calls of the example", calls.size() >= 10, true);
        Checks.due("answers of the example", answers.size(), calls.size());
        for (int i = 0; i < answers.size(); i++) {
            Checks.due("README.md: " + calls.get(i), answers.get(i), due.get(i));
        }
    }

    private static List<Long> answers(String source) throws Exception {
        Path folder = Files.createTempDirectory("readme");
        Path file = folder.resolve("Example.java");
        Files.writeString(file, source);
        String[] options = {"-cp", System.getProperty("java.class.path"), "-d", folder.toString(), file.toString()};
        List<Long> answers = new ArrayList<>();
        if (ToolProvider.getSystemJavaCompiler().run(null, null, null, options) == 0) {
            try (URLClassLoader loader = new URLClassLoader(new URL[] {folder.toUri().toURL()})) {
                loader.loadClass("Example").getMethod("run", List.class).invoke(null, answers);
            }
        }
        for (String name : new String[] {"Example.class", "Example.java", ""}) {
            Files.deleteIfExists(folder.resolve(name));
        }
        return answers;
    }
}
