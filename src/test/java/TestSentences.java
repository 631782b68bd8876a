import java.io.IOException;
import java.lang.reflect.Method;
import java.nio.file.Files;
import java.nio.file.Path;
import java.util.Arrays;
import java.util.List;
import java.util.regex.Matcher;
import java.util.regex.Pattern;
import java.util.stream.Stream;

/**
 * Holds the tests of boundary cases against the document itself: each quotes words that stand in its
 * promise or in the terms, is named after that promise, and no words of either are without a test.
 */
public final class TestSentences {
    private final String doc;
    private final boolean[] tested;
    private final int[] begins = new int[42];
    private final String[] names = new String[41];

    private TestSentences(String text) {
        doc = text.replaceAll("\\s+", " ");
        tested = new boolean[doc.length()];
        Matcher heading = Pattern.compile("## Promise (\\d+): ([A-Za-z ]+) `[^`]*`: ").matcher(doc);
        int promises = 0;
        while (heading.find()) {
            promises++;
            int number = Integer.parseInt(heading.group(1));
            Check.due("number of a promise", promises, number);
            names[number] = number == 1 ? "newObject" : heading.group(2);
            begins[number] = heading.end();
            Arrays.fill(tested, heading.start(), heading.end(), true);
        }
        Check.due("promises", 40, promises);
        begins[41] = doc.indexOf("## Not promised");
    }

    public static void main(String[] args) throws Exception {
        TestSentences sentences = new TestSentences(Files.readString(Path.of("../shared/DOC.md")));
        for (String tests : namesOfTests()) {
            for (Method test : Edges.of(Class.forName(tests))) {
                sentences.take(test);
            }
        }
        sentences.findUntested();
        Check.end();
    }

    private static List<String> namesOfTests() throws IOException {
        try (Stream<Path> files = Files.list(Path.of("src/test/java"))) {
            return files.map(file -> file.getFileName().toString())
                    .filter(file -> file.matches("TestEdges.*[.]java"))
                    .map(file -> file.replace(".java", ""))
                    .sorted()
                    .toList();
        }
    }

    private void take(Method test) {
        String[] parts = test.getName().split("_");
        int number = parts[0].matches("promise\\d+") ? Integer.parseInt(parts[0].substring(7)) : 0;
        boolean fits = number >= 1 && number <= 40 && parts.length > 2 && parts[1].equals(names[number]);
        Check.due("named after its promise: " + test.getName(), true, fits);
        for (String words : test.getAnnotation(Says.class).value()) {
            boolean ofPromise = fits && mark(words, begins[number], number == 40 ? begins[41] : headingBehind(number));
            boolean ofTerms = mark(words, doc.indexOf("An object is used"), doc.indexOf("## The public face"))
                    | mark(words, termsBegin(), doc.indexOf("## Promise 1:"));
            Check.due(test.getName() + " says what the document doesn't: " + words, true, ofPromise || ofTerms);
        }
    }

    private int termsBegin() {
        return doc.indexOf("## Terms ") + "## Terms ".length();
    }

    private int headingBehind(int number) {
        return doc.indexOf("## Promise " + (number + 1) + ":");
    }

    private boolean mark(String words, int from, int to) {
        int at = doc.indexOf(words, from);
        if (from < 0 || at < 0 || at + words.length() > to) {
            return false;
        }
        Arrays.fill(tested, at, at + words.length(), true);
        return true;
    }

    /** What parts sentences ("====", code fences) isn't asked for. */
    private void findUntested() {
        int from = termsBegin();
        StringBuilder left = new StringBuilder();
        for (int i = from; i < begins[41]; i++) {
            left.append(tested[i] ? '\n' : doc.charAt(i));
        }
        for (String words : left.toString().split("\n+")) {
            String bare = words.replaceAll("```(text)?|==== \\d\\.", "").strip();
            Check.due("no test is of: " + bare, false, bare.matches(".*[A-Za-z0-9].*"));
        }
    }
}
