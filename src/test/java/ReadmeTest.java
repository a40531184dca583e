import java.io.IOException;
import java.nio.file.Files;
import java.nio.file.Path;
import java.util.Map;
import java.util.regex.Matcher;
import java.util.regex.Pattern;

/** The calls that README.md shows, in their order on one object, answer what stands behind them. */
public final class ReadmeTest {
    private static final Check c = new Check("ReadmeTest");
    private static final Map<String, Integer> NAMES = Map.of("BAD", -1, "NOT", -2, "FULL", -3, "STATE", -5);

    public static void main(String[] args) throws IOException {
        String readme = Files.readString(Path.of("README.md"));
        calls(readme);
        tests(readme);
        c.end();
    }

    private static void calls(String readme) {
        Run run = new Run(c);
        Matcher shown = Pattern.compile("table\\.(\\w+\\(.*?\\)); +// (-?\\w+)").matcher(readme);
        int found = 0;
        while (shown.find()) {
            run.due(byNumbers(shown.group(1)), answer(shown.group(2)));
            found++;
        }
        int lines = readme.split("\ntable\\.", -1).length - 1;
        c.due("calls with an answer", found, lines);
        c.due("there are some", lines > 30 ? 1 : 0, 1);
    }

    /** 'n' is a char in Java; a call told as text has numbers alone. */
    private static String byNumbers(String call) {
        Matcher letter = Pattern.compile("'(.)'").matcher(call);
        return letter.replaceAll(m -> Integer.toString(m.group(1).charAt(0)));
    }

    private static long answer(String told) {
        return NAMES.containsKey(told) ? NAMES.get(told) : Long.parseLong(told);
    }

    /** Each test that .ci/run finds stands in the table of tests, and each one there is found. */
    private static void tests(String readme) throws IOException {
        Path folder = Path.of("src/test/java");
        int told = 0;
        Matcher row = Pattern.compile("\n\\| (\\w+Test) \\|").matcher(readme);
        while (row.find()) {
            told++;
            c.due(row.group(1) + " is there", Files.exists(folder.resolve(row.group(1) + ".java")) ? 1 : 0, 1);
        }
        long there;
        try (var files = Files.list(folder)) {
            there = files.filter(f -> f.toString().endsWith("Test.java")).count();
        }
        c.due("tests told", told, there);
    }
}
