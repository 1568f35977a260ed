import java.io.IOException;
import java.lang.reflect.Modifier;
import java.net.URL;
import java.net.URLClassLoader;
import java.nio.file.DirectoryStream;
import java.nio.file.Files;
import java.nio.file.Path;
import java.util.ArrayList;
import java.util.Arrays;
import java.util.List;
import java.util.Set;
import java.util.TreeSet;
import java.util.regex.Matcher;
import java.util.regex.Pattern;
import javax.tools.JavaCompiler;
import javax.tools.ToolProvider;

/** Whether README.md tells of calls, answers and tests what is so. */
public final class ReadmeTests {
    private static final Path README = Path.of("README.md");
    private static final Path TESTS = Path.of("src/test/java");
    /** A call with its answer behind it, and perhaps the name of the constant that this is. */
    private static final Pattern CALL = Pattern.compile(
        "waves\\.(\\w+)\\((.*)\\); +// (-?\\d+)(?: \\(([A-Z]+)\\))?(?:: \\S.*)?");

    private final List<String> calls = new ArrayList<>();
    private final List<Integer> answers = new ArrayList<>();
    private final Set<String> called = new TreeSet<>();

    private ReadmeTests() {
    }

    public static void main(String[] args) throws Exception {
        ReadmeTests tests = new ReadmeTests();
        String readme = Files.readString(README);
        String program = tests.programOf(readme);
        int[] answered = tests.run(program);
        for (int i = 0; i < answered.length; i++) {
            Check.due(tests.calls.get(i), answered[i], tests.answers.get(i));
        }
        Check.due("calls that were run", answered.length, tests.calls.size());
        tests.allMethods();
        tests.allTests(readme);
        Check.close();
    }

    /** The blocks of Java on the page, one behind the other, as a program that keeps the answers. */
    private String programOf(String readme) throws ReflectiveOperationException {
        StringBuilder program = new StringBuilder("public final class ReadmeProgram {\n"
            + "public static int[] run() {\n"
            + "java.util.List<Integer> answers = new java.util.ArrayList<>();\n");
        Matcher block = Pattern.compile("(?s)```java\n(.*?)```").matcher(readme);
        while (block.find()) {
            for (String line : block.group(1).split("\n")) {
                program.append(kept(line)).append('\n');
            }
        }
        return program + "return answers.stream().mapToInt(i -> i).toArray(); } }\n";
    }

    private String kept(String line) throws ReflectiveOperationException {
        Matcher call = CALL.matcher(line);
        if (!call.matches()) {
            // What is in a loop has many answers, and is indented.
            Check.holds("an answer stands behind " + line, !line.startsWith("waves."));
            return line;
        }
        calls.add(line);
        called.add(call.group(1));
        answers.add(Integer.valueOf(call.group(3)));
        if (call.group(4) != null) {
            int constant = SignalWaves.class.getField(call.group(4)).getInt(null);
            Check.due("the constant in " + line, constant, answers.get(answers.size() - 1));
        }
        return "answers.add(waves." + call.group(1) + "(" + call.group(2) + "));";
    }

    private int[] run(String program) throws Exception {
        Path folder = Files.createTempDirectory("readme");
        try {
            Path source = folder.resolve("ReadmeProgram.java");
            Files.writeString(source, program);
            JavaCompiler compiler = ToolProvider.getSystemJavaCompiler();
            int errors = compiler.run(null, null, null, "-cp", System.getProperty("java.class.path"),
                "-d", folder.toString(), source.toString());
            Check.due("errors of the compiler", errors, 0);
            try (URLClassLoader loader = new URLClassLoader(new URL[] {folder.toUri().toURL()})) {
                return (int[]) loader.loadClass("ReadmeProgram").getMethod("run").invoke(null);
            }
        } finally {
            remove(folder);
        }
    }

    private static void remove(Path folder) throws IOException {
        try (DirectoryStream<Path> files = Files.newDirectoryStream(folder)) {
            for (Path file : files) {
                Files.delete(file);
            }
        }
        Files.delete(folder);
    }

    private void allMethods() {
        Set<String> methods = new TreeSet<>();
        Arrays.stream(SignalWaves.class.getDeclaredMethods())
            .filter(method -> Modifier.isPublic(method.getModifiers()))
            .forEach(method -> methods.add(method.getName()));
        Check.holds("each method is shown: " + called, called.equals(methods));
    }

    private void allTests(String readme) throws IOException {
        Set<String> named = new TreeSet<>();
        Matcher name = Pattern.compile("`(\\w+Tests)`").matcher(readme);
        while (name.find()) {
            named.add(name.group(1));
        }
        Set<String> found = new TreeSet<>();
        try (DirectoryStream<Path> files = Files.newDirectoryStream(TESTS, "*Tests.java")) {
            for (Path file : files) {
                found.add(file.getFileName().toString().replace(".java", ""));
            }
        }
        Check.holds("each test is named: " + named, named.equals(found));
    }
}
