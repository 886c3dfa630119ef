import java.io.IOException;
import java.io.UncheckedIOException;
import java.lang.reflect.Method;
import java.lang.reflect.Modifier;
import java.net.URL;
import java.net.URLClassLoader;
import java.nio.file.Files;
import java.nio.file.Path;
import java.util.ArrayList;
import java.util.List;
import java.util.regex.Matcher;
import java.util.regex.Pattern;
import java.util.stream.Stream;

/**
 * README.md is true of the class: its example is compiled as it stands and each answer that it names
 * is the one that the class gives; each call of the face and each test is named. Run from the
 * project's directory.
 */
public final class ReadmeTest {
    private static final Checks CHECKS = new Checks();
    private static final Path README = Path.of("README.md");
    private static final Path TESTS = Path.of("src/test/java");

    /** A call, what it is kept in if it is, and the answer that it names up to a colon or the end. */
    private static final Pattern LINE = Pattern.compile("(?:int (\\w+) = )?(x\\.(\\w+)\\(.*\\));\\s*// (\\S+?)(?::.*)?");
    private static final String BEGINNING = "ArenaPlan x = new ArenaPlan();";

    public static void main(String[] args) throws Exception {
        List<String> example = block("```java");
        everyLineNamesAnAnswer(example);
        answersAsNamed(example);
        everyCallIsThere(example);
        everyTestIsNamed();
        noTestIsMissing();
        CHECKS.end();
    }

    private static List<String> block(String fence) throws IOException {
        List<String> lines = Files.readAllLines(README);
        int begin = lines.indexOf(fence) + 1;
        int end = begin + lines.subList(begin, lines.size()).indexOf("```");
        return lines.subList(begin, end);
    }

    private static void everyLineNamesAnAnswer(List<String> example) {
        CHECKS.answers("the example begins with", BEGINNING, () -> example.get(0));
        for (String line : example.subList(1, example.size())) {
            CHECKS.answers(line + " names an answer", true, () -> LINE.matcher(line).matches());
        }
    }

    private static void answersAsNamed(List<String> example) throws Exception {
        Path directory = Files.createTempDirectory("readme");
        try {
            List<String> got = runCompiled(program(example), directory);
            for (int line = 1; line < example.size(); line++) {
                Matcher parts = LINE.matcher(example.get(line));
                if (parts.matches()) {
                    CHECKS.compare(example.get(line), parts.group(4), got.remove(0));
                }
            }
        } finally {
            deleteAll(directory);
        }
    }

    /** A class that adds the outcome of each line of the example to a list, in their order. */
    private static String program(List<String> example) {
        StringBuilder program = new StringBuilder("public final class Example {\n")
            .append("    public static void main(java.util.List<String> outcomes) {\n        ").append(BEGINNING).append('\n');
        for (String line : example) {
            Matcher parts = LINE.matcher(line);
            if (parts.matches()) {
                program.append(outcomeOf(parts.group(1), parts.group(2)));
            }
        }
        return program.append("    }\n}\n").toString();
    }

    private static String outcomeOf(String kept, String call) {
        if (kept != null) {
            return "        int " + kept + " = " + call + ";\n        outcomes.add(String.valueOf(" + kept + "));\n";
        }
        return "        try { outcomes.add(String.valueOf(" + call + ")); }"
            + " catch (RuntimeException thrown) { outcomes.add(thrown.getClass().getSimpleName()); }\n";
    }

    private static List<String> runCompiled(String program, Path directory) throws Exception {
        Path source = directory.resolve("Example.java");
        Files.writeString(source, program);
        int refused = new ProcessBuilder("javac", "--release", "17", "-cp", System.getProperty("java.class.path"),
            "-d", directory.toString(), source.toString()).inheritIO().start().waitFor();
        CHECKS.answers("the example compiles", 0, () -> refused);
        List<String> outcomes = new ArrayList<>();
        try (URLClassLoader loader = new URLClassLoader(new URL[] {directory.toUri().toURL()})) {
            loader.loadClass("Example").getMethod("main", List.class).invoke(null, outcomes);
        }
        return outcomes;
    }

    private static void deleteAll(Path directory) throws IOException {
        try (Stream<Path> files = Files.list(directory)) {
            for (Path file : files.toList()) {
                Files.delete(file);
            }
        }
        Files.delete(directory);
    }

    private static void everyCallIsThere(List<String> example) {
        List<String> called = new ArrayList<>();
        for (String line : example) {
            Matcher parts = LINE.matcher(line);
            if (parts.matches()) {
                called.add(parts.group(3));
            }
        }
        for (Method method : ArenaPlan.class.getDeclaredMethods()) {
            if (Modifier.isPublic(method.getModifiers())) {
                CHECKS.answers("the example calls " + method.getName(), true, () -> called.contains(method.getName()));
                CHECKS.answers("the text names " + method.getName(), true, () -> names(method.getName()));
            }
        }
    }

    private static boolean names(String word) {
        try {
            return Files.readString(README).contains("`" + word + "`");
        } catch (IOException thrown) {
            throw new UncheckedIOException(thrown);
        }
    }

    private static void everyTestIsNamed() throws IOException {
        try (Stream<Path> files = Files.list(TESTS)) {
            for (Path file : files.toList()) {
                String name = file.getFileName().toString().replace(".java", "");
                if (name.endsWith("Test")) {
                    CHECKS.answers("the text names " + name, true, () -> names(name));
                }
            }
        }
    }

    private static void noTestIsMissing() throws IOException {
        Matcher named = Pattern.compile("`(\\w+Test)`").matcher(Files.readString(README));
        while (named.find()) {
            String name = named.group(1);
            CHECKS.answers(name + " is a test", true, () -> Files.exists(TESTS.resolve(name + ".java")));
        }
    }
}
