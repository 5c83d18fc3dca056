import java.io.ByteArrayOutputStream;
import java.io.IOException;
import java.io.PrintStream;
import java.nio.charset.StandardCharsets;
import java.nio.file.Files;
import java.nio.file.Path;
import java.util.regex.Matcher;
import java.util.regex.Pattern;

/** What README.md says is true of the project: its example, what that prints, its calls, and the files it names. */
public final class ReadmeTest {
    private static final Path TESTS = Path.of("src", "test", "java");

    public static void main(String[] args) throws IOException {
        String readme = Files.readString(Path.of("README.md"));
        Probe.due("the example", block(readme, "java"), Files.readString(TESTS.resolve("Example.java")));
        Probe.due("what the example prints", block(readme, "text"), printOfExample());
        for (String method : Sentence.face()) {
            String call = method.substring(method.indexOf(' ') + 1);
            Probe.due(call + " in the table", readme.contains("\n| `" + call + "` |"), true);
        }
        filesAreThere(readme);
        classesAreThere(readme);
        Probe.finish();
    }

    private static String block(String readme, String kind) {
        String begin = "```" + kind + "\n";
        int from = readme.indexOf(begin) + begin.length();
        return readme.substring(from, readme.indexOf("```", from));
    }

    private static String printOfExample() {
        PrintStream screen = System.out;
        ByteArrayOutputStream caught = new ByteArrayOutputStream();
        System.setOut(new PrintStream(caught, true, StandardCharsets.UTF_8));
        Example.main(new String[0]);
        System.setOut(screen);
        return caught.toString(StandardCharsets.UTF_8).replace(System.lineSeparator(), "\n");
    }

    private static void filesAreThere(String readme) {
        Matcher path = Pattern.compile("`([a-z./]+/[A-Za-z./]+)`").matcher(readme);
        while (path.find()) {
            Probe.due(path.group(1) + " is there", Files.exists(Path.of(path.group(1))), true);
        }
    }

    /** A class that is named is one of the tests, or stands in the program. */
    private static void classesAreThere(String readme) throws IOException {
        String program = Files.readString(Path.of("src", "main", "java", "RuleBuilder.java"));
        Matcher name = Pattern.compile("`([A-Z][a-z]+[A-Za-z]*)`").matcher(readme);
        while (name.find()) {
            String word = name.group(1);
            boolean isTest = Files.exists(TESTS.resolve(word + ".java"));
            boolean isThere = isTest || word.equals("Test") || word.equals("Bounds")
                    || program.contains("class " + word + " ");
            Probe.due(word + " is there", isThere, true);
        }
    }
}
