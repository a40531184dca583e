/** Counts the answers that are not as due, and helps the tests to fill shelves and the tape. */
final class Check {
    static final int NOTHING_THERE = -11, OTHER_KIND = -12, NO_PLACE = -13, BELOW_ZERO = -14;

    private final String name;
    private int wrong;
    private int asked;

    Check(String name) {
        this.name = name;
    }

    void due(String what, long got, long want) {
        asked++;
        if (got != want) {
            wrong++;
            if (wrong <= 40) {
                System.out.println(name + ": " + what + " answered " + got + ", due is " + want);
            }
        }
    }

    void end() {
        System.out.println(name + ": " + asked + " answers, " + wrong + " wrong");
        if (wrong != 0 || asked == 0) {
            System.exit(1);
        }
    }

    /** A ROW of bytes with these values lies on the shelf then. */
    static void bytes(WhoMentionsIt x, int shelf, int... values) {
        fill(x, shelf, 0, values);
    }

    static void shorts(WhoMentionsIt x, int shelf, int... values) {
        fill(x, shelf, 1, values);
    }

    private static void fill(WhoMentionsIt x, int shelf, int sort, int... values) {
        x.row(shelf, sort, values.length);
        for (int i = 0; i < values.length; i++) {
            x.put(shelf, i, values[i]);
        }
    }

    static int law(WhoMentionsIt x, String text) {
        for (int i = 0; i < text.length(); i++) {
            x.feed(text.charAt(i));
        }
        return x.law();
    }

    static WhoMentionsIt people(int... means) {
        WhoMentionsIt x = new WhoMentionsIt();
        for (int m : means) {
            x.person(m);
        }
        return x;
    }
}
