import java.lang.management.ManagementFactory;
import java.lang.reflect.Field;
import java.lang.reflect.Method;
import java.lang.reflect.Modifier;
import java.nio.charset.StandardCharsets;
import java.nio.file.Files;
import java.nio.file.Path;
import java.util.ArrayList;
import java.util.List;
import java.util.Set;
import java.util.TreeSet;
import java.util.regex.Matcher;
import java.util.regex.Pattern;

/** The rules of LANGUAGE.md, as far as the class and its source show whether they are kept. */
public final class RuleTests {
    private static final Path SOURCE = Path.of("src/main/java/SignalWaves.java");
    private static final int MOST_LINES = 60;
    private static final int MOST_PARAMETERS = 7;
    private static final int MOST_CLASSES = 12;
    private static final int MOST_FIELDS = 20;
    private static final int[] FAR = {Integer.MIN_VALUE, Integer.MIN_VALUE + 1, -1000, -10, -9, -7, -2,
        -1, 0, 1, 2, 5, 6, 7, 8, 11, 12, 13, 31, 32, 100, 255, 256, 999, 1000, 4095, 4096, 1 << 30,
        Integer.MAX_VALUE - 1, Integer.MAX_VALUE};

    private RuleTests() {
    }

    public static void main(String[] args) throws Exception {
        names();
        members();
        source();
        farArguments();
        nothingIsMade();
        Check.close();
    }

    /** Rule 1: a private method has a name of its own. FaceTests look at what is not private. */
    private static void names() {
        Set<String> publicNames = new TreeSet<>();
        for (Method one : SignalWaves.class.getDeclaredMethods()) {
            if (Modifier.isPublic(one.getModifiers())) {
                publicNames.add(one.getName());
            }
        }
        Check.due("public methods", publicNames.size(), 34);
        List<Class<?>> classes = new ArrayList<>(List.of(SignalWaves.class.getDeclaredClasses()));
        classes.add(SignalWaves.class);
        for (Class<?> inside : classes) {
            for (Method one : inside.getDeclaredMethods()) {
                boolean isPublic = Modifier.isPublic(one.getModifiers());
                Check.holds(one + " has a name of its own", isPublic || !publicNames.contains(one.getName()));
            }
        }
    }

    /** Rules 2, 5 and 11: classes inside, fields, parameters. */
    private static void members() {
        List<Class<?>> classes = new ArrayList<>(List.of(SignalWaves.class.getDeclaredClasses()));
        for (Class<?> inside : classes) {
            Check.holds(inside + " is static", Modifier.isStatic(inside.getModifiers()));
            Check.holds(inside + " is private", Modifier.isPrivate(inside.getModifiers()));
        }
        classes.add(SignalWaves.class);
        Check.holds("few classes", classes.size() <= MOST_CLASSES);
        for (Class<?> one : classes) {
            int fields = 0;
            for (Field field : one.getDeclaredFields()) {
                boolean isStatic = Modifier.isStatic(field.getModifiers());
                Check.holds(field + " is final", !isStatic || Modifier.isFinal(field.getModifiers()));
                fields += isStatic ? 0 : 1;
            }
            Check.holds("few fields in " + one, fields <= MOST_FIELDS);
            for (Method method : one.getDeclaredMethods()) {
                Check.holds("few parameters of " + method, method.getParameterCount() <= MOST_PARAMETERS);
            }
        }
    }

    /** Rules 3, 4, 6 and 11: words, imports, lengths of methods. */
    private static void source() throws Exception {
        String source = Files.readString(SOURCE, StandardCharsets.US_ASCII);
        String code = source.replaceAll("(?s)/\\*.*?\\*/", "").replaceAll("//.*", "");
        String[] banned = {"throw", "throws", "try", "catch", "finally", "synchronized", "assert",
            "package", "volatile", "native", "System.out", "Exact", "Object", "->", "::"};
        for (String word : banned) {
            boolean isWord = Character.isLetter(word.charAt(0));
            Pattern pattern = Pattern.compile(isWord ? "\\b" + word + "\\b" : Pattern.quote(word));
            Check.holds("no '" + word + "'", !pattern.matcher(code).find());
        }
        Matcher imports = Pattern.compile("\\bimport\\s+([\\w.*]+);").matcher(code);
        while (imports.find()) {
            Check.holds("import of " + imports.group(1), imports.group(1).equals("java.util.Arrays"));
        }
        int begin = -1;
        String[] lines = source.split("\n");
        for (int i = 0; i < lines.length; i++) {
            if (lines[i].matches("( {4}| {8})\\S.*\\) \\{")) {
                begin = i;
            }
            if (begin >= 0 && lines[i].equals(lines[begin].replaceAll("\\S.*", "}"))) {
                Check.holds("short: " + lines[begin].trim(), i - begin < MOST_LINES);
                begin = -1;
            }
        }
    }

    private static void send(SignalWaves x, String text) {
        for (int i = 0; i < text.length(); i++) {
            x.type(text.charAt(i));
        }
    }

    /** An object in one of some states, full ones among them. */
    private static SignalWaves prepared(int state) {
        SignalWaves x = new SignalWaves();
        if (state == 0) {
            return x;
        }
        if (state == 1) {
            send(x, "a:1;b@a;[s;c=!a;");
            x.tells();
            return x;
        }
        send(x, "a:8;b:8;c:8;d:8;e:8;f:8;[s;[t;[u;[v;a=a+b+c+d+e+f;b=!!!!!!a;c=((((((a))))));"
            + "d=!(!(!(a-b|c^d&e+f)));];];];];[w;];[x;e@s.t.u.v.d;f@e;");
        Check.due("tells() of a full text", x.tells(), 23);
        Check.due("signals and scopes of a full text", x.count(0) + x.count(2), 18);
        x.sizes(8);
        for (int i = 1; i <= 70; i++) {
            x.sets(i % 6, i);
            x.passes(i % 20 + 1);
        }
        for (int i = 0; i < 6; i++) {
            x.sees(i, 0);
        }
        x.keep(1);
        if (state == 3) {
            x.dumps(0);
        }
        return x;
    }

    /** Rule 7: whatever the arguments and the state, there is an answer. */
    private static void farArguments() throws Exception {
        for (int state = 0; state <= 3; state++) {
            for (Method method : SignalWaves.class.getDeclaredMethods()) {
                if (Modifier.isPublic(method.getModifiers())) {
                    SignalWaves x = prepared(state);
                    int count = method.getParameterCount();
                    int kinds = count > 3 ? 12 : FAR.length;
                    for (int i = 0; i < Math.pow(kinds, count); i++) {
                        answers(x, method, i, kinds);
                    }
                }
            }
        }
    }

    private static void answers(SignalWaves x, Method method, int which, int kinds) {
        Object[] arguments = new Object[method.getParameterCount()];
        int rest = which;
        for (int i = 0; i < arguments.length; i++) {
            arguments[i] = FAR[rest % kinds * (FAR.length - 1) / (kinds - 1)];
            rest /= kinds;
        }
        boolean answered = true;
        try {
            method.invoke(x, arguments);
        } catch (ReflectiveOperationException thrown) {
            answered = false;
        }
        Check.holds(method.getName() + List.of(arguments) + " answers", answered);
    }

    /** Rule 12: what the calls need is made by the constructor. */
    private static void nothingIsMade() {
        SignalWaves[] objects = {prepared(1), prepared(2), prepared(3)};
        var threads = (com.sun.management.ThreadMXBean) ManagementFactory.getThreadMXBean();
        long thread = Thread.currentThread().getId();
        long least = Long.MAX_VALUE;
        for (int round = 0; round < 5; round++) {
            long before = threads.getThreadAllocatedBytes(thread);
            for (SignalWaves x : objects) {
                everything(x);
            }
            least = Math.min(least, threads.getThreadAllocatedBytes(thread) - before);
        }
        Check.holds("calls make next to nothing, not " + least + " bytes", least < 2000);
    }

    private static void everything(SignalWaves x) {
        int sum = x.passes(1) + x.sets(0, 1) + x.sets(0, 0) + x.dumps(0) + x.dumps(1) + x.sizes(3)
            + x.undo() + x.at(0, 3) + x.edges(0, 0, 0, 1) + x.next(0, 0, 0) + x.previous(0, 0, 1)
            + x.first(0, 3, 0) + x.holds(0, 1, 0) + x.ticks(3, -1) + x.delay(0, 1) + x.jump(0)
            + x.block(0, 4) + x.frame(0, 0) + x.change(0, 0, 3) + x.packed(3) + x.best() + x.forget()
            + x.sees(0, 0) + x.which() + x.look() + x.keep(0) + x.back(0) + x.count(9) + x.clear()
            + x.listed(-1, 0) + x.path(0, 0) + x.about(0, 5) + x.scope(0, 0) + x.type('a') + x.node()
            + x.type('a') + x.tells();
        Check.holds("a sum", sum != Integer.MAX_VALUE);
    }
}
