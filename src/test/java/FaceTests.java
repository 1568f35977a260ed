import java.io.IOException;
import java.io.UncheckedIOException;
import java.lang.reflect.Constructor;
import java.lang.reflect.Field;
import java.lang.reflect.Method;
import java.lang.reflect.Modifier;
import java.nio.file.Files;
import java.nio.file.Path;
import java.util.ArrayList;
import java.util.Arrays;
import java.util.List;
import java.util.Set;
import java.util.TreeSet;
import java.util.regex.MatchResult;
import java.util.regex.Pattern;

/** What it is, the public face, and what the document says of itself: its examples, its promises. */
public final class FaceTests extends Bench {
    private static final String METHODS = "public int type(int letter); public int clear();"
        + " public int tells(); public int node(); public int about(int n, int what);"
        + " public int scope(int s, int what); public int listed(int s, int k);"
        + " public int path(int n, int k); public int sets(int n, int v); public int passes(int n);"
        + " public int dumps(int on); public int sizes(int n); public int undo();"
        + " public int at(int n, int t); public int edges(int n, int kind, int from, int to);"
        + " public int next(int n, int kind, int t); public int previous(int n, int kind, int t);"
        + " public int first(int n, int v, int t); public int holds(int n, int m, int t);"
        + " public int ticks(int set, int k); public int delay(int a, int b);"
        + " public int jump(int t); public int block(int b, int what);"
        + " public int frame(int b, int n); public int change(int b, int i, int what);"
        + " public int packed(int s); public int best(); public int sees(int t, int v);"
        + " public int forget(); public int which(); public int look(); public int keep(int image);"
        + " public int back(int image); public int count(int what);";

    public static void main(String[] args) throws ReflectiveOperationException {
        run(FaceTests.class);
    }

    private static String read(String file) {
        try {
            return Files.readString(Path.of(file));
        } catch (IOException unreadable) {
            throw new UncheckedIOException(unreadable);
        }
    }

    private static List<MatchResult> all(String pattern, String text) {
        return Pattern.compile(pattern).matcher(text).results().toList();
    }

    // ---- What it is

    @Sentence("A store for signal waveforms, as in the trace file of a simulator: wires in scopes, aliases"
        + " and derived signals are described by a text;")
    void whatADescription() {
        fine("[c;k:1;d:8;];b=!c.k;e@c.d;", 6);
        due(x.count(0), 4);
        due(x.count(1), 2);
        due(x.count(2), 1);
        int[] kinds = {0, 0, 2, 1};
        for (int n = 0; n < 4; n++) {
            due(x.about(n, 0), kinds[n]);
            due(x.about(n, 3), n < 2 ? 0 : NONE);
        }
        due(found("c.d"), 1);
    }

    @Sentence("changes of the wires are recorded in blocks with a frame and a dictionary;")
    void whatARecord() {
        fine("[c;k:1;d:8;];b=!c.k;e@c.d;", 6);
        x.sizes(3);
        wave(1, 2, 200, 4, 7, 6, 200, 8, 9);
        due(x.count(6), 2);
        due(x.count(8), 4);
        due(x.frame(0, 1), 0);
        due(x.frame(1, 1), 200);
        due(x.block(0, 3), 2);
        due(x.change(0, 2, 3), 0);
        due(x.block(1, 3), 1);
    }

    @Sentence("the value of every signal at any time, edges, delays and sizes of the record can be queried.")
    void whatQuestions() {
        fine("k:1;d:8;b=!k;e@d;", 4);
        wave(0, 2, 1, 5, 0);
        wave(1, 6, 9);
        dueAt(0, 0, 0, 1, 1, 1, 0, 0);
        dueAt(1, 0, 0, 0, 0, 0, 0, 9);
        dueAt(2, 1, 1, 0, 0, 0, 1, 1);
        dueAt(3, 0, 0, 0, 0, 0, 0, 9);
        due(x.edges(2, 0, 0, 6), 2);
        due(x.next(2, 1, 0), 5);
        due(x.previous(2, 2, 5), 2);
        due(x.delay(0, 2), 0);
        due(x.delay(1, 0), NONE);
        due(x.delay(0, 1), 4);
        // For two wires, three values, three changes, the third value and three times.
        due(x.count(9), 4 + 6 + 3 + 1 + 3);
        due(x.packed(3), x.count(9));
        due(x.packed(1), 3 * 4 + 3 * 3 + 1);
    }

    @Sentence("An object is used for at most 512 calls after it has been made")
    void whatItIsAllOf512Calls() {
        for (int i = 1; i <= 160; i++) {
            due(x.type(' '), i);
        }
        for (int i = 161; i <= 509; i++) {
            due(x.type(' '), FULL);
        }
        due(x.tells(), 0);
        due(x.type('a'), 1);
        due(x.count(11), 1);
    }

    // ---- The public face

    @Sentence("public final class SignalWaves {")
    void faceClass() {
        int modifiers = SignalWaves.class.getModifiers();
        Check.holds("the class is public", Modifier.isPublic(modifiers));
        Check.holds("the class is final", Modifier.isFinal(modifiers));
        Check.holds("the class has no package", SignalWaves.class.getPackageName().isEmpty());
    }

    @Sentence("public static final int BAD = -1, STATE = -2, FULL = -3, UNKNOWN = -7, NONE = -9;")
    void faceConstants() throws IllegalAccessException {
        Set<String> found = new TreeSet<>();
        for (Field field : SignalWaves.class.getDeclaredFields()) {
            if (!Modifier.isPrivate(field.getModifiers())) {
                found.add(Modifier.toString(field.getModifiers()) + " " + field.getType() + " "
                    + field.getName() + " = " + field.getInt(null));
            }
        }
        Set<String> wanted = new TreeSet<>();
        for (MatchResult one : all("([A-Z]+) = (-\\d+)", "BAD = -1, STATE = -2, FULL = -3,"
                + " UNKNOWN = -7, NONE = -9;")) {
            wanted.add("public static final int " + one.group());
        }
        Check.due("constants of the document", wanted.size(), 5);
        Check.holds("the constants are the document's: " + found, found.equals(wanted));
    }

    @Sentence("public SignalWaves();")
    void faceConstructor() {
        Constructor<?>[] constructors = SignalWaves.class.getDeclaredConstructors();
        Check.due("constructors", constructors.length, 1);
        Check.due("parameters of the constructor", constructors[0].getParameterCount(), 0);
        Check.holds("the constructor is public", Modifier.isPublic(constructors[0].getModifiers()));
    }

    @Sentence(METHODS)
    void faceMethods() {
        Set<String> found = new TreeSet<>();
        for (Method method : SignalWaves.class.getDeclaredMethods()) {
            if (!Modifier.isPrivate(method.getModifiers())) {
                found.add(method.toString().replace("SignalWaves.", ""));
            }
        }
        Set<String> wanted = new TreeSet<>();
        String source = read("src/main/java/SignalWaves.java");
        for (MatchResult one : all("(public int \\w+)\\((.*?)\\);", METHODS)) {
            wanted.add(one.group(1) + "(" + one.group(2).replaceAll("int \\w+", "int").replace(" ", "")
                + ")");
            String declared = "\n    " + one.group().replace(";", " {") + "\n";
            Check.holds("declared as in the document: " + one.group(), source.contains(declared));
        }
        Check.due("methods of the document", wanted.size(), 34);
        Check.holds("the methods are the document's: " + found, found.equals(wanted));
    }

    // ---- Numbers, examples and promises

    @Sentence("All numbers are integers.")
    void descriptionIntegers() {
        for (Method method : SignalWaves.class.getDeclaredMethods()) {
            if (Modifier.isPublic(method.getModifiers())) {
                Check.holds(method + " returns int", method.getReturnType() == int.class);
                for (Class<?> type : method.getParameterTypes()) {
                    Check.holds(method + " takes int", type == int.class);
                }
            }
        }
    }

    @Sentence("Examples: Each of them begins with a new object; the results are given behind the calls.")
    void descriptionExamplesAsTheyStand() throws ReflectiveOperationException {
        String document = read("../shared/DOC.md");
        String examples = document.substring(document.indexOf("\nExamples: "),
            document.indexOf("\n## Promise 1:"));
        int calls = 0;
        for (String example : examples.split("\n(?=\\d+\\. )")) {
            anew();
            for (MatchResult call : all("(\\w+)\\(([^()]*)\\) = (-?\\d+)", example)) {
                due(answer(call.group(1), call.group(2)), Integer.parseInt(call.group(3)));
                calls++;
            }
        }
        Check.due("examples", all("\n\\d+\\. ", examples).size(), 3);
        Check.due("calls in the examples", calls, 48);
    }

    private int answer(String name, String numbers) throws ReflectiveOperationException {
        List<Object> arguments = new ArrayList<>();
        for (MatchResult number : all("-?\\d+", numbers)) {
            arguments.add(Integer.valueOf(number.group()));
        }
        Class<?>[] types = new Class<?>[arguments.size()];
        Arrays.fill(types, int.class);
        return (int) SignalWaves.class.getMethod(name, types).invoke(x, arguments.toArray());
    }

    @Sentence("The constructor and the methods follow, a promise each: the signature, then what it does.")
    void descriptionPromises() {
        List<String> wanted = new ArrayList<>(List.of("1: a new object SignalWaves()"));
        for (MatchResult method : all("public (int (\\w+)\\(.*?\\));", METHODS)) {
            wanted.add(wanted.size() + 1 + ": " + method.group(2) + " " + method.group(1));
        }
        List<String> found = new ArrayList<>();
        for (MatchResult promise : all("\n## Promise (\\d+): (.*)\n\n`(.*)`\n", read("../shared/DOC.md"))) {
            found.add(promise.group(1) + ": " + promise.group(2).toLowerCase() + " " + promise.group(3));
        }
        Check.holds("a promise for each of the methods: " + found, found.equals(wanted));
    }
}
