import java.io.IOException;
import java.nio.file.Files;
import java.nio.file.Path;

/** Counts the answers that are not as due, and helps the tests to fill shelves and the tape. */
final class Check {
    static final int NOTHING_THERE = -11, OTHER_KIND = -12, NO_PLACE = -13, BELOW_ZERO = -14;
    private static final Path DOCUMENT = Path.of("../shared/DOC.md");

    private final String name;
    private String document;
    private String sentence = "";
    private int wrong;
    private int asked;

    Check(String name) {
        this.name = name;
    }

    /**
     * What is asked from here on tests this sentence. It must stand in the document, so that a test
     * can't outlive what it tests.
     */
    void says(String words) {
        sentence = words;
        if (document == null) {
            document = readDocument();
        }
        due("the document says so", document.isEmpty() || document.contains(onOneLine(words)) ? 1 : 0, 1);
    }

    private static String readDocument() {
        try {
            return Files.exists(DOCUMENT) ? onOneLine(Files.readString(DOCUMENT)) : "";
        } catch (IOException e) {
            throw new IllegalStateException("can't read " + DOCUMENT, e);
        }
    }

    private static String onOneLine(String text) {
        return text.replaceAll("\\s+", " ");
    }

    void due(String what, long got, long want) {
        asked++;
        if (got != want) {
            wrong++;
            if (wrong <= 40) {
                String told = sentence.isEmpty() ? "" : " [" + sentence + "]";
                System.out.println(name + ": " + what + " answered " + got + ", due is " + want + told);
            }
        }
    }

    void end() {
        System.out.println(name + ": " + asked + " answers, " + wrong + " wrong");
        if (wrong != 0 || asked == 0) {
            System.exit(1);
        }
    }

    /** A ROW of bytes with these values lies on the shelf then. */
    static void bytes(WhoMentionsIt x, int shelf, int... values) {
        fill(x, shelf, 0, values);
    }

    static void shorts(WhoMentionsIt x, int shelf, int... values) {
        fill(x, shelf, 1, values);
    }

    private static void fill(WhoMentionsIt x, int shelf, int sort, int... values) {
        x.row(shelf, sort, values.length);
        for (int i = 0; i < values.length; i++) {
            x.put(shelf, i, values[i]);
        }
    }

    static int law(WhoMentionsIt x, String text) {
        for (int i = 0; i < text.length(); i++) {
            x.feed(text.charAt(i));
        }
        return x.law();
    }

    static WhoMentionsIt people(int... means) {
        WhoMentionsIt x = new WhoMentionsIt();
        for (int m : means) {
            x.person(m);
        }
        return x;
    }
}
