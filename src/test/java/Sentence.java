import java.io.IOException;
import java.nio.file.Files;
import java.nio.file.Path;
import java.util.ArrayList;
import java.util.Arrays;
import java.util.List;
import java.util.regex.Matcher;
import java.util.regex.Pattern;

/**
 * The sentence of the document that is tested at the moment. Each must stand in the document under its promise, or
 * before all promises, and at the end all of the document must have been named.
 */
final class Sentence {
    private static final Path DOCUMENT = Path.of("..", "shared", "DOC.md");
    private static final String HEADLINE =
            "#+ (What it is|The public face|Terms|Promise \\d+: \\w+( new object)?)";
    private static final String WHOLE = read();
    private static final String TEXT = sentences();
    private static final boolean[] NAMED = new boolean[TEXT.length()];

    private Sentence() {
    }

    private static String read() {
        if (!Files.exists(DOCUMENT)) {
            System.out.println("no document at " + DOCUMENT + ": its sentences are not looked up");
            return "";
        }
        try {
            return Files.readString(DOCUMENT);
        } catch (IOException e) {
            throw new IllegalStateException(e);
        }
    }

    private static String sentences() {
        String all = WHOLE.replaceAll("(?s)```java.*?```", " ").replace("```text", " ");
        return all.replace("```", " ").replaceAll("\\s+", " ");
    }

    /** The methods of the document's face, such as "boolean type(char c)", or none if there is no document. */
    static List<String> face() {
        List<String> methods = new ArrayList<>();
        Matcher method = Pattern.compile("\n    public (\\w+ \\w+\\(.*\\));").matcher(WHOLE);
        while (method.find()) {
            methods.add(method.group(1));
        }
        return methods;
    }

    /** What is due from now on is due by this sentence, for the sake of this promise. */
    static void of(int promise, String words) {
        Probe.about("promise " + promise + ", \"" + words + "\": ");
        if (TEXT.isEmpty()) {
            return;
        }
        int own = TEXT.indexOf("## Promise " + promise + ":");
        int behind = TEXT.indexOf("## ", own + 3);
        int at = TEXT.indexOf(words);
        if (at > TEXT.indexOf("## Promise 1:")) {
            at = TEXT.indexOf(words, own);
            at = at < behind ? at : -1;
        }
        Probe.due("standing in the document", at >= 0, true);
        if (at >= 0) {
            Arrays.fill(NAMED, at, at + words.length(), true);
        }
    }

    /** Tells the parts of the document, from its first line up to what is not promised, that no test has named. */
    static void allAreNamed() {
        Probe.about("");
        StringBuilder left = new StringBuilder();
        for (int i = TEXT.indexOf("## What it is") + 1; i > 0 && i < TEXT.indexOf("## Not promised"); i++) {
            left.append(NAMED[i] ? '\n' : TEXT.charAt(i));
        }
        for (String part : left.toString().split("\n+")) {
            String words = part.replaceAll(HEADLINE, "").replaceAll("`.*?`:", "");
            Probe.due("what no test names", words.replaceAll("[^A-Za-z]", "").isEmpty() ? "" : words, "");
        }
    }
}
