import java.io.IOException;
import java.net.URL;
import java.net.URLClassLoader;
import java.nio.file.Files;
import java.nio.file.Path;
import java.util.ArrayList;
import java.util.List;
import java.util.regex.Matcher;
import java.util.regex.Pattern;
import java.util.stream.Stream;
import javax.tools.ToolProvider;

/** The examples of README.md, compiled and run as the one program that they are: each answer is as it says. */
final class ReadmeTest {
    private static final Pattern CALL = Pattern.compile("((?:int \\w+ = )?)(w\\.\\w+\\(.*\\));\\s+// (-?\\d+):? .*");
    private static final int CALLS_LEAST = 40;

    private final List<String> calls = new ArrayList<>();
    private final List<Long> wanted = new ArrayList<>();
    private final StringBuilder program = new StringBuilder();

    public static void main(String[] args) throws Exception {
        List<String> page = Files.readAllLines(Path.of("README.md"));
        new ReadmeTest().examplesHold(page);
        everyTestIsTold(String.join("\n", page));
        Due.end();
    }

    private void examplesHold(List<String> page) throws Exception {
        boolean isJava = false;
        for (String line : page) {
            if (line.startsWith("```")) {
                isJava = line.equals("```java");
            } else if (isJava) {
                take(line);
            }
        }
        Due.that("README.md has examples: " + calls.size(), calls.size() >= CALLS_LEAST);
        Path folder = Files.createTempDirectory("readme");
        try {
            answersAreAsTold(folder);
        } finally {
            clear(folder);
        }
    }

    /** A call's answer is kept; a line without one stays as it is. */
    private void take(String line) {
        Matcher m = CALL.matcher(line);
        if (!m.matches()) {
            Due.that("README.md tells a call's answer as a number: " + line, !line.contains("//"));
            program.append(line).append('\n');
            return;
        }
        String kept = "is[" + calls.size() + "]";
        program.append(kept).append(" = ").append(m.group(2)).append(";\n");
        if (!m.group(1).isEmpty()) {
            program.append(m.group(1)).append("(int) ").append(kept).append(";\n");
        }
        calls.add(m.group(2));
        wanted.add(Long.valueOf(m.group(3)));
    }

    private void answersAreAsTold(Path folder) throws Exception {
        Path file = folder.resolve("Example.java");
        Files.writeString(file, "public final class Example {\npublic static long[] answers() {\nlong[] is = new long["
                + calls.size() + "];\n" + program + "return is;\n}\n}\n");
        int faults = ToolProvider.getSystemJavaCompiler().run(null, null, null, "-proc:none", "-cp",
                System.getProperty("java.class.path"), "-d", folder.toString(), file.toString());
        Due.is("README.md's examples compile", faults, 0);
        if (faults != 0) {
            return;
        }
        try (URLClassLoader loader = new URLClassLoader(new URL[] {folder.toUri().toURL()})) {
            long[] is = (long[]) loader.loadClass("Example").getMethod("answers").invoke(null);
            for (int i = 0; i < is.length; i++) {
                Due.is("README.md: " + calls.get(i), is[i], wanted.get(i));
            }
        }
    }

    private static void clear(Path folder) throws IOException {
        Files.deleteIfExists(folder.resolve("Example.java"));
        Files.deleteIfExists(folder.resolve("Example.class"));
        Files.deleteIfExists(folder);
    }

    private static void everyTestIsTold(String page) throws IOException {
        try (Stream<Path> files = Files.list(Path.of("src/test/java"))) {
            files.map(file -> file.getFileName().toString().replace(".java", "")).filter(name -> name.endsWith("Test"))
                    .forEach(name -> Due.that("README.md tells of " + name, page.contains("`" + name + "`")));
        }
    }
}
