import java.io.IOException;
import java.lang.reflect.Method;
import java.net.URL;
import java.net.URLClassLoader;
import java.nio.file.Files;
import java.nio.file.Path;
import java.util.ArrayList;
import java.util.List;
import java.util.regex.Matcher;
import java.util.regex.Pattern;
import java.util.stream.Stream;
import javax.tools.ToolProvider;

/** README.md: its example compiles and answers as it says, and it names all calls and all tests. */
public final class ReadmeTest {
    private static final Pattern BLOCK = Pattern.compile("(?s)```java\n(.*?)```");
    private static final Pattern ANSWERED = Pattern.compile("(x\\.\\w+\\(.*\\));\\s*// (-?\\d+).*");
    private static final String NAME = "ReadmeUse";

    public static void main(String[] args) throws Exception {
        String readme = Files.readString(Path.of("README.md"));
        namesAllCalls(readme);
        namesAllTests(readme);
        exampleAnswers(readme);
        Check.end();
    }

    private static void namesAllCalls(String readme) {
        for (Method m : InvariantSearch.class.getDeclaredMethods()) {
            if (java.lang.reflect.Modifier.isPublic(m.getModifiers())) {
                Check.yes("README.md names " + m.getName(), readme.contains("`" + m.getName() + "`"));
            }
        }
        for (String constant : new String[] {"BAD", "NONE", "FULL", ".ci/run"}) {
            Check.yes("README.md names " + constant, readme.contains(constant));
        }
    }

    private static void namesAllTests(String readme) throws IOException {
        try (Stream<Path> files = Files.list(Path.of("src/test/java"))) {
            for (Path file : files.toList()) {
                String name = file.getFileName().toString().replace(".java", "");
                Check.yes("README.md names " + name, readme.contains("`" + name + "`"));
            }
        }
    }

    private static void exampleAnswers(String readme) throws Exception {
        List<String> blocks = new ArrayList<>();
        Matcher block = BLOCK.matcher(readme);
        while (block.find()) {
            blocks.add(block.group(1));
        }
        Check.due("blocks of Java in README.md", blocks.size(), 2);
        if (blocks.size() != 2) {
            return;
        }
        List<String> calls = new ArrayList<>();
        List<Integer> due = new ArrayList<>();
        StringBuilder body = new StringBuilder();
        for (String line : blocks.get(1).split("\n")) {
            Matcher answered = ANSWERED.matcher(line);
            boolean isCall = answered.matches();
            Check.yes("a call of the example has its answer: " + line, isCall || !line.startsWith("x."));
            if (isCall) {
                calls.add(answered.group(1));
                due.add(Integer.parseInt(answered.group(2)));
            }
            body.append(isCall ? "answers.add(" + answered.group(1) + ");" : line).append('\n');
        }
        List<?> answers = answersOf(blocks.get(0), body.toString());
        Check.due("answers of the example", answers.size(), due.size());
        for (int i = 0; i < answers.size() && i < due.size(); i++) {
            Check.yes(calls.get(i) + " of README.md answered " + answers.get(i), due.get(i).equals(answers.get(i)));
        }
    }

    private static List<?> answersOf(String helper, String body) throws Exception {
        Path out = Files.createTempDirectory("readme");
        Path source = out.resolve(NAME + ".java");
        Path made = out.resolve(NAME + ".class");
        Files.writeString(source, "public class " + NAME + " {\n" + helper
                + "public static java.util.List<Integer> answers() {\n"
                + "java.util.List<Integer> answers = new java.util.ArrayList<>();\n" + body + "return answers;\n}\n}\n");
        try (URLClassLoader loader = new URLClassLoader(new URL[] {out.toUri().toURL()})) {
            int failed = ToolProvider.getSystemJavaCompiler().run(null, null, null, "-cp",
                    System.getProperty("java.class.path"), "-d", out.toString(), source.toString());
            Check.due("the example of README.md compiles", failed, 0);
            return failed != 0 ? List.of() : (List<?>) loader.loadClass(NAME).getMethod("answers").invoke(null);
        } finally {
            Files.deleteIfExists(source);
            Files.deleteIfExists(made);
            Files.deleteIfExists(out);
        }
    }
}
