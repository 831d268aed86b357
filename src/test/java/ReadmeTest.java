import java.io.IOException;
import java.net.URL;
import java.net.URLClassLoader;
import java.nio.file.Files;
import java.nio.file.Path;
import java.util.ArrayList;
import java.util.List;
import java.util.function.Supplier;
import java.util.regex.Matcher;
import java.util.regex.Pattern;
import java.util.stream.Stream;
import javax.tools.ToolProvider;

/**
 * The run of calls that README.md shows: its Java blocks are compiled as they stand there, one behind
 * the other, and the answer behind each call is compared with what the call answers.
 */
public final class ReadmeTest {
    private static final Pattern BLOCK = Pattern.compile("```java\n(.*?)```", Pattern.DOTALL);
    private static final Pattern CALL =
            Pattern.compile("(shop\\.\\w+\\(.*?\\)); +// (throws \\w+|-?\\d+|true|false): \\S.*");

    private final List<String> calls = new ArrayList<>();
    private final List<String> due = new ArrayList<>();
    private final StringBuilder body = new StringBuilder();

    public static void main(String[] args) throws Exception {
        String readme = Files.readString(Path.of("README.md"));
        ReadmeTest test = new ReadmeTest();
        test.read(readme);
        test.compare();
        namesEveryTest(readme);
        Check.end();
    }

    private void read(String readme) {
        Matcher block = BLOCK.matcher(readme);
        while (block.find()) {
            for (String line : block.group(1).split("\n")) {
                readLine(line);
            }
        }
        Check.is(calls.size() >= 30, true, "a run of calls in README.md, of " + calls.size() + " calls");
    }

    /** A call at the beginning of a line must have its answer behind it; other lines are taken over. */
    private void readLine(String line) {
        Matcher call = CALL.matcher(line);
        if (call.matches()) {
            calls.add(call.group(1));
            due.add(call.group(2));
            body.append("note(() -> ").append(call.group(1)).append(");\n");
        } else {
            Check.is(line.startsWith("shop."), false, "a call without an answer: " + line);
            body.append(line).append('\n');
        }
    }

    private void compare() throws Exception {
        List<String> answers = answers();
        Check.is(answers.size(), due.size(), "the number of answers");
        for (int i = 0; i < Math.min(answers.size(), due.size()); i++) {
            Check.is(answers.get(i), due.get(i), "README.md: " + calls.get(i));
        }
    }

    private List<String> answers() throws Exception {
        Path folder = Files.createTempDirectory("readme");
        try {
            Path file = folder.resolve("ReadmeRun.java");
            Files.writeString(file, source());
            int code = ToolProvider.getSystemJavaCompiler().run(null, null, null, "-d", folder.toString(),
                    "-cp", System.getProperty("java.class.path"), file.toString());
            Check.is(code, 0, "javac's exit code for the Java blocks of README.md");
            return code == 0 ? run(folder) : List.of();
        } finally {
            remove(folder);
        }
    }

    private static List<String> run(Path folder) throws Exception {
        try (URLClassLoader loader = new URLClassLoader(new URL[] {folder.toUri().toURL()})) {
            Supplier<?> made = (Supplier<?>) loader.loadClass("ReadmeRun").getConstructor().newInstance();
            List<String> answers = new ArrayList<>();
            for (Object answer : (List<?>) made.get()) {
                answers.add(answer.toString());
            }
            return answers;
        }
    }

    private String source() {
        return """
                import java.util.ArrayList;
                import java.util.List;
                import java.util.concurrent.Callable;
                public final class ReadmeRun implements java.util.function.Supplier<List<String>> {
                    private final List<String> answers = new ArrayList<>();
                    private void note(Callable<Object> call) {
                        try {
                            answers.add(call.call().toString());
                        } catch (Exception e) {
                            answers.add("throws " + e.getClass().getSimpleName());
                        }
                    }
                    public List<String> get() {
                """ + body + "return answers; } }\n";
    }

    private static void remove(Path folder) throws IOException {
        List<Path> inside;
        try (Stream<Path> files = Files.list(folder)) {
            inside = files.toList();
        }
        for (Path file : inside) {
            Files.delete(file);
        }
        Files.delete(folder);
    }

    private static void namesEveryTest(String readme) throws IOException {
        List<Path> files;
        try (Stream<Path> all = Files.list(Path.of("src/test/java"))) {
            files = all.toList();
        }
        for (Path file : files) {
            String name = file.getFileName().toString().replace(".java", "");
            if (name.endsWith("Test")) {
                Check.is(readme.contains("| " + name + " |"), true, "README.md names " + name);
            }
        }
    }
}
