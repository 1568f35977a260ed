import java.lang.reflect.Method;
import java.util.ArrayList;
import java.util.Comparator;
import java.util.List;
import java.util.function.IntSupplier;
import java.util.function.IntUnaryOperator;

/**
 * What the tests of single sentences share. Each method with a Sentence is a test of its own, with
 * a new object; its name begins with the promise in which the sentence stands, or with "what",
 * "face" or "description" for the parts of the document before them.
 */
abstract class Bench {
    static final int BAD = -1, STATE = -2, FULL = -3, UNKNOWN = -7, NONE = -9;
    static final int LEAST = Integer.MIN_VALUE, GREATEST = Integer.MAX_VALUE;

    /** Texts that describe as many signals, wires, derived signals and scopes as there may be. */
    static final String TWELVE = "a:1;b@a;c@a;d@a;e@a;f@a;g@a;h@a;i@a;j@a;k@a;l@a;";
    static final String SIX_WIRES = "a:1;b:1;c:1;d:1;e:1;f:1;";
    static final String FOUR_DERIVED = "a=1;b=2;c=3;d=4;";
    static final String SIX_SCOPES = "[a;];[b;];[c;];[d;];[e;];[f;];";

    SignalWaves x = new SignalWaves();
    private String test = "";

    /** The tests of a class, in the order of their names. */
    static List<Method> testsOf(Class<? extends Bench> bench) {
        List<Method> tests = new ArrayList<>();
        for (Method method : bench.getDeclaredMethods()) {
            if (method.isAnnotationPresent(Sentence.class)) {
                tests.add(method);
            }
        }
        tests.sort(Comparator.comparing(Method::getName));
        return tests;
    }

    static void run(Class<? extends Bench> benchClass) throws ReflectiveOperationException {
        List<Method> tests = testsOf(benchClass);
        for (Method test : tests) {
            Bench bench = benchClass.getDeclaredConstructor().newInstance();
            bench.test = test.getName();
            test.invoke(bench);
        }
        Check.holds("there are tests", !tests.isEmpty());
        Check.close();
    }

    // ---- Answers

    void due(int got, int want) {
        Check.due(got == want ? test : place(), got, want);
    }

    private String place() {
        StackWalker.StackFrame frame = StackWalker.getInstance().walk(frames -> frames
            .filter(f -> !f.getClassName().startsWith("Bench")).findFirst().orElseThrow());
        return test + " (" + frame.getFileName() + ":" + frame.getLineNumber() + ")";
    }

    /** All that can be asked for in few calls: an object is used for 512 calls at most. */
    private List<Integer> state() {
        List<Integer> state = new ArrayList<>();
        for (int what = 0; what <= 12; what++) {
            state.add(x.count(what));
        }
        for (int n = 0; n < x.count(0); n++) {
            state.add(x.about(n, 5));
        }
        for (int b = 0; b < x.count(6); b++) {
            state.add(x.block(b, 0));
            state.add(x.block(b, 1));
            state.add(x.block(b, 2));
        }
        return state;
    }

    /** Each of the calls answers with this error, and nothing is changed by them. */
    void refused(int error, IntSupplier... calls) {
        List<Integer> before = state();
        for (IntSupplier call : calls) {
            due(call.getAsInt(), error);
        }
        List<Integer> after = state();
        Check.holds(place() + ", nothing is changed: " + before + " then " + after,
            before.equals(after));
    }

    /** The arguments from least to greatest are allowed, those outside are not. */
    void range(int least, int greatest, IntUnaryOperator call) {
        refused(BAD, () -> call.applyAsInt(least - 1), () -> call.applyAsInt(greatest + 1),
            () -> call.applyAsInt(LEAST), () -> call.applyAsInt(GREATEST));
        Check.holds(place() + ", allowed: " + least, call.applyAsInt(least) != BAD);
        Check.holds(place() + ", allowed: " + greatest, call.applyAsInt(greatest) != BAD);
    }

    // ---- Texts

    void anew() {
        x = new SignalWaves();
    }

    void send(String text) {
        for (int i = 0; i < text.length(); i++) {
            x.type(text.charAt(i));
        }
    }

    static String spaces(int n) {
        return " ".repeat(n);
    }

    /** A new object that has read this text. */
    void fine(String text, int items) {
        anew();
        send(text);
        due(x.count(11), text.length());
        due(x.tells(), items);
    }

    /** A new object that has refused this text, at this position. */
    void wrong(String text, int position) {
        anew();
        send(text);
        due(x.count(11), text.length());
        refused(-10 - position, () -> x.tells());
    }

    /** Reads a path in place of what the text buffer holds. */
    int found(String path) {
        x.clear();
        send(path);
        return x.node();
    }

    // ---- Records

    void passTo(int time) {
        for (int rest = time - x.count(3); rest > 0; rest -= 99) {
            x.passes(Math.min(99, rest));
        }
        due(x.count(3), time);
    }

    /** Lets time pass to each of the times, and gives the wire the value behind it then. */
    void wave(int n, int... timesAndValues) {
        for (int i = 0; i < timesAndValues.length; i += 2) {
            passTo(timesAndValues[i]);
            x.sets(n, timesAndValues[i + 1]);
        }
    }

    /** So many changes of the wire, each by 1, to 1 or 0. */
    void toggle(int n, int changes) {
        for (int i = 0; i < changes; i++) {
            due(x.sets(n, 1 - x.about(n, 5)), x.count(4));
        }
    }

    /** Blocks 1 and so on, by switching recording off and on. */
    void moreBlocks(int n) {
        for (int i = 0; i < n; i++) {
            x.dumps(0);
            x.dumps(1);
        }
    }

    /**
     * As many changes, ends and gaps at different times as there can be: the wire a goes from 1 to
     * 8 in each of six blocks, which begin at 20, 40 and so on, 2 at 22; each ends behind 17 times.
     * It is time 139. The wire b stays 0.
     */
    void fullRecord() {
        fine("a:8;b:8;", 2);
        x.sizes(8);
        for (int begin = 0; begin <= 120; begin += 20) {
            for (int i = 1; i <= 8; i++) {
                wave(0, begin + 2 * i, i);
            }
            passTo(begin + 17);
            x.dumps(0);
            x.sets(0, 0);
            passTo(begin + (begin == 120 ? 19 : 20));
            if (begin < 120) {
                x.dumps(1);
            }
        }
        due(x.count(6), 6);
        due(x.count(7), 1);
        due(x.count(8), 48);
    }

    void dueAt(int n, int... values) {
        for (int t = 0; t < values.length; t++) {
            due(x.at(n, t), values[t]);
        }
    }
}
