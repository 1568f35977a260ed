import java.io.IOException;
import java.lang.reflect.Method;
import java.nio.file.DirectoryStream;
import java.nio.file.Files;
import java.nio.file.Path;
import java.util.BitSet;
import java.util.Map;
import java.util.Set;
import java.util.TreeMap;
import java.util.regex.Matcher;
import java.util.regex.Pattern;

/**
 * Whether the tests of single sentences quote the document as it is, and leave no sentence of it
 * out but those that name nothing that could be tested.
 */
public final class SentenceTests {
    private static final Path DOCUMENT = Path.of("../shared/DOC.md");
    private static final Path TESTS = Path.of("src/test/java");
    private static final int PROMISES = 35;

    /** Headings, and what the document leaves free. */
    private static final String[][] NOTHING_TO_TEST = {
        {"what", "what later calls answer is free."},
        {"description", "Error codes."},
        {"description", "Signals and scopes."},
        {"description", "Text."},
        {"description", "The items are:"},
        {"description", "Values."},
        {"description", "Recording."},
        {"description", "Recorded values."},
        {"description", "Room."},
        {"description", "Observations."},
        {"not", "How the state is held inside the object is free, as are the speed of each call, the text of"
            + " toString and the behaviour of equals and hashCode. Use of one object from several threads at"
            + " once is not promised to be safe. Nothing is promised beyond the answers and state changes"
            + " described above, and nothing about an object after its 512th call."},
    };

    private final Map<String, String> texts = new TreeMap<>();
    private final Map<String, BitSet> quoted = new TreeMap<>();

    private SentenceTests() {
    }

    public static void main(String[] args) throws Exception {
        SentenceTests tests = new SentenceTests();
        tests.readDocument();
        for (String[] nothing : NOTHING_TO_TEST) {
            tests.quote(nothing[0], nothing[1], "what is not tested");
        }
        tests.readTests();
        tests.lookForGaps();
        Check.close();
    }

    /** The parts of the document: "what", "face", "description", "promise1" and so on, "not". */
    private void readDocument() throws IOException {
        String[] parts = Files.readString(DOCUMENT).split("(?m)^## ");
        for (String part : parts) {
            int end = part.indexOf('\n');
            String title = part.substring(0, end);
            Matcher promise = Pattern.compile("Promise (\\d+): .*").matcher(title);
            String name = promise.matches() ? "promise" + promise.group(1)
                : title.replace("The public ", "").replaceAll(" .*", "").toLowerCase();
            // FaceTests look at the signatures; the lines with ---- are headings.
            String text = part.substring(end).replaceAll("(?m)^`.*\\)`$", "")
                .replaceAll("(?m)^---- .*$", "").replaceAll("(?m)^```.*$", "");
            texts.put(name, plain(text));
            quoted.put(name, new BitSet());
        }
        int promises = 0;
        for (String name : texts.keySet()) {
            promises += name.startsWith("promise") ? 1 : 0;
        }
        Check.due("promises in the document", promises, PROMISES);
        Check.holds("the other parts are known: " + texts.keySet(), texts.size() == PROMISES + 5
            && texts.keySet().containsAll(Set.of("#", "what", "face", "description", "not")));
    }

    private static String plain(String text) {
        return text.replaceAll("\\s+", " ").trim();
    }

    private void readTests() throws IOException, ClassNotFoundException {
        try (DirectoryStream<Path> files = Files.newDirectoryStream(TESTS, "*Tests.java")) {
            for (Path file : files) {
                Class<?> tests = Class.forName(file.getFileName().toString().replace(".java", ""));
                if (Bench.class.isAssignableFrom(tests)) {
                    for (Method test : Bench.testsOf(tests.asSubclass(Bench.class))) {
                        readTest(test);
                    }
                }
            }
        }
    }

    private void readTest(Method test) {
        String part = test.getName().replaceAll("[A-Z].*", "");
        quote(part, test.getAnnotation(Sentence.class).value(), test.getName());
    }

    private void quote(String part, String words, String test) {
        String text = texts.getOrDefault(part, "");
        int place = text.indexOf(plain(words));
        Check.holds(test + " quotes the document", place >= 0 && !words.isEmpty());
        while (place >= 0) {
            quoted.get(part).set(place, place + words.length());
            place = text.indexOf(plain(words), place + 1);
        }
    }

    /** Each letter and digit of the document stands in a quotation. */
    private void lookForGaps() {
        for (String part : texts.keySet()) {
            String text = texts.get(part);
            for (int i = 0; i < text.length(); i++) {
                if (Character.isLetterOrDigit(text.charAt(i)) && !quoted.get(part).get(i)) {
                    int end = quoted.get(part).nextSetBit(i);
                    String gap = text.substring(i, end < 0 ? text.length() : end);
                    Check.holds(part + ", a test for: " + gap, false);
                    i += gap.length();
                }
            }
        }
    }
}
