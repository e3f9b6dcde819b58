import java.io.IOException;
import java.lang.reflect.Method;
import java.lang.reflect.Modifier;
import java.net.URL;
import java.net.URLClassLoader;
import java.nio.file.Files;
import java.nio.file.Path;
import java.util.ArrayList;
import java.util.List;
import java.util.TreeSet;
import java.util.regex.Matcher;
import java.util.regex.Pattern;
import java.util.stream.Stream;
import javax.tools.JavaCompiler;
import javax.tools.ToolProvider;

/** What README.md shows is so: its examples are compiled and run, and answer what it tells. */
public final class ReadmeTest {
    private static final Pattern ANSWER = Pattern.compile("(?:int|boolean) (\\w+) = .*;\\s*// (\\S+): .*");
    private static final Pattern THROWN = Pattern.compile("(bank\\..*;)\\s*// throws (\\w+): .*");
    private static final Check check = new Check("ReadmeTest");

    private final StringBuilder code = new StringBuilder();
    private final List<String> lines = new ArrayList<>();
    private final List<String> told = new ArrayList<>();

    public static void main(String[] args) throws Exception {
        String page = Files.readString(Path.of("README.md"));
        ReadmeTest example = new ReadmeTest();
        Matcher block = Pattern.compile("(?s)```java\n(.*?)```").matcher(page);
        while (block.find()) {
            example.add(block.group(1));
        }
        example.ask();
        namesAllCalls(page);
        namesAllTests(page);
        check.end();
    }

    private void add(String block) {
        for (String line : block.split("\n")) {
            Matcher answer = ANSWER.matcher(line);
            Matcher thrown = THROWN.matcher(line);
            if (answer.matches()) {
                code.append(line).append("\nanswers.add(String.valueOf(").append(answer.group(1)).append("));\n");
                tell(line, answer.group(2));
            } else if (thrown.matches()) {
                code.append("try { ").append(thrown.group(1)).append(" answers.add(\"nothing\"); }\n")
                        .append("catch (RuntimeException e) { answers.add(e.getClass().getSimpleName()); }\n");
                tell(line, thrown.group(2));
            } else {
                code.append(line).append('\n');
                check.due("an answer is told by: " + line, true, () -> !line.matches("(int|boolean) .*|.*// throws.*"));
            }
        }
    }

    private void tell(String line, String answer) {
        lines.add(line);
        told.add(answer);
    }

    private void ask() throws Exception {
        List<?> answers = run("import java.util.ArrayList;\nimport java.util.List;\npublic final class ReadmeExample {\n"
                + "public static List<String> answers() {\nList<String> answers = new ArrayList<>();\n"
                + code + "return answers;\n}\n}\n");
        check.due("the examples tell answers", true, () -> told.size() > 20);
        check.due("how many answers there are", told.size(), () -> answers.size());
        for (int i = 0; i < told.size(); i++) {
            int at = i;
            check.due(lines.get(at), told.get(at), () -> answers.get(at));
        }
    }

    private static List<?> run(String source) throws Exception {
        Path folder = Files.createTempDirectory("readme");
        try {
            Path file = folder.resolve("ReadmeExample.java");
            Files.writeString(file, source);
            JavaCompiler compiler = ToolProvider.getSystemJavaCompiler();
            int failed = compiler.run(null, null, null, "--release", "17", "-cp", System.getProperty("java.class.path"),
                    "-d", folder.toString(), file.toString());
            check.due("the examples compile", 0, () -> failed);
            if (failed != 0) {
                return List.of();
            }
            try (URLClassLoader loader = new URLClassLoader(new URL[] {folder.toUri().toURL()})) {
                return (List<?>) loader.loadClass("ReadmeExample").getMethod("answers").invoke(null);
            }
        } finally {
            remove(folder);
        }
    }

    private static void remove(Path folder) throws IOException {
        try (Stream<Path> files = Files.list(folder)) {
            for (Path file : files.toList()) {
                Files.delete(file);
            }
        }
        Files.delete(folder);
    }

    private static void namesAllCalls(String page) {
        TreeSet<String> names = new TreeSet<>();
        for (Method m : MessageBank.class.getDeclaredMethods()) {
            if (Modifier.isPublic(m.getModifiers())) {
                names.add(m.getName());
            }
        }
        check.due("calls of the class", 18, () -> names.size());
        for (String name : names) {
            check.due("the table has " + name, true, () -> page.contains("`" + name + "("));
            check.due("the examples call " + name, true, () -> page.contains("bank." + name + "("));
        }
    }

    private static void namesAllTests(String page) throws IOException {
        try (Stream<Path> files = Files.list(Path.of("src/test/java"))) {
            for (Path file : files.toList()) {
                String name = file.getFileName().toString().replace(".java", "");
                check.due("the page names " + name, true, () -> !name.endsWith("Test") || page.contains("`" + name + "`"));
            }
        }
    }
}
