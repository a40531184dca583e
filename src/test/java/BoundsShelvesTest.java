/** Each sentence on bodies, their acts, shelves and counts that names a boundary: promises 35 to 44. */
public final class BoundsShelvesTest {
    private static final int BAD = Run.BAD, FULL = Run.FULL, LEAST = Run.LEAST, MOST = Run.MOST;
    private static final Check c = new Check("BoundsShelvesTest");

    public static void main(String[] args) {
        bodies();
        kinds();
        actsWrap();
        actsThatAreNot();
        traceBounds();
        keepBounds();
        rowBounds();
        rowSizes();
        lowestBits();
        putRefuses();
        elementRefuses();
        shiftRefuses();
        shiftEdges();
        shiftAsBefore();
        takenRefuses();
        takenUnder();
        counts();
        c.end();
    }

    private static void bodies() {
        c.says("BODIES 0 .. 49 are kept by call");
        Run r = new Run(c);
        for (int i = 0; i < 50; i++) {
            r.due("keep(0, " + i + ")", BAD).due("act(" + i + ", 0, 1)", 0).due("body(" + i % 8 + ")", i).due("count(4)", i + 1);
        }
        c.says("A BODY of a KIND (0 .. 7) is kept: its number. BAD, FULL.");
        r.refused("body(0)", FULL, "count(4)").refused("body(7)", FULL, "count(4)").due(BAD, "body(-1)", "body(8)");
        r.due("keep(0, 49)", 1).due("taken(0, 0)", 1).due("keep(0, 50)", BAD).due("act(49, 2, 0)", 49).due("act(50, 2, 0)", 0);
        r.due("act(48, 0, 1)", 49).due("count(4)", 50);
    }

    private static void kinds() {
        c.says("A BODY of a KIND (0 .. 7) is kept");
        Run r = new Run(c).due(BAD, "body(-1)", "body(8)", "body(" + LEAST + ")", "body(" + MOST + ")").due("count(4)", 0);
        r.due("body(0)", 0).due("body(7)", 1).due("keep(0, 0)", 1).due("taken(0, 0)", 0).due("keep(0, 1)", 1).due("taken(0, 0)", 7);
    }

    private static void actsWrap() {
        c.says("ACTS with x (an int that wraps)");
        Run r = new Run(c);
        for (int kind = 0; kind < 8; kind++) {
            r.make("body(" + kind + ")");
        }
        r.due("act(1, 0, " + MOST + ")", LEAST + 3).due("act(1, 0, " + (MOST - 4) + ")", MOST).due("act(1, 0, " + (MOST - 3) + ")", LEAST);
        r.due("act(0, 0, " + MOST + ")", MOST).due("act(0, 0, " + LEAST + ")", LEAST);
        r.due("act(0, 1, " + 0x40000000 + ")", LEAST).due("act(0, 1, " + (0x40000000 - 1) + ")", MOST - 1).due("act(0, 1, " + LEAST + ")", 0);
        r.due("act(0, 1, " + MOST + ")", -2);
        // STAMMER, number 2: -(2 * (x + 2)); the least int stays itself
        r.due("act(2, 1, " + (0x40000000 - 2) + ")", LEAST).due("act(2, 1, " + (LEAST - 2) + ")", 0);
        // SONG, number 3: pays 3 * (x ^ 3), nears -(2 * (x + 1 + 3))
        r.due("act(3, 2, " + MOST + ")", 3 * (MOST ^ 3)).due("act(3, 2, " + LEAST + ")", 3 * (LEAST ^ 3)).due("act(3, 1, " + MOST + ")", -(2 * (MOST + 4)));
        // TELLS: nears(x) - pays(1)
        r.due("act(0, 3, " + 0x40000000 + ")", LEAST - 1).due("act(1, 3, " + (0x40000000 - 4) + ")", LEAST);
        r.due("act(7, 0, " + LEAST + ")", 2 * 7 - 1).due("act(6, 0, " + (0x40000000 - 6) + ")", LEAST).due("act(7, 0, " + (0x40000000 - 7) + ")", MOST);
        r.due("act(5, 2, " + LEAST + ")", 3 * (LEAST ^ 5) - 7).due("act(4, 3, " + MOST + ")", 2 * (MOST + 7) - 5 ^ 5);
        // CLERK, number 5, tells: nears(x) - pays(1) + 1, with pays(1) = 3 * (1 ^ 5) - 7; CHILD, number 7, nears: 2 * says(x) + (2 ^ 7)
        r.due("act(5, 3, 0)", -12 - 5 + 1).due("act(5, 3, " + (0x40000000 - 6) + ")", LEAST - 4).due("act(5, 3, " + MOST + ")", -(2 * (MOST + 6)) - 4);
        r.due("act(7, 1, 0)", 2 * 13 + 5).due("act(7, 1, " + MOST + ")", 2 * (2 * (MOST + 7) - 1) + 5).due("act(7, 3, 0)", 31 - 6);
    }

    private static void actsThatAreNot() {
        c.says("An ACT (0 .. 3) of a BODY with x. 0, and no TRACE then: no such BODY, ACT.");
        Run r = new Run(c).due(0, "act(0, 0, 5)", "act(-1, 0, 5)", "count(5)").make("body(0)");
        String[] none = {"act(-1, 0, 5)", "act(1, 0, 5)", "act(0, -1, 5)", "act(0, 4, 5)", "act(" + LEAST + ", 0, 5)",
            "act(" + MOST + ", 0, 5)", "act(0, " + LEAST + ", 5)", "act(0, " + MOST + ", 5)", "act(50, 4, 5)"};
        for (String n : none) {
            r.due("act(0, 3, 5)", 9).due("count(5)", 4).due("trace(0)", 2).due(n, 0).due("count(5)", 0).due("trace(0)", BAD);
        }
        r.due("act(0, 0, 5)", 5).due("trace(0)", 1).due("count(5)", 1).due("act(0, 2, 5)", 5).due("trace(0)", 11);
    }

    private static void traceBounds() {
        c.says("numbers of the bodies that ran in the latest act(), as they began; the first 24 are kept");
        int[][] longest = {{2, 10, 1, 11}, {2, 10, 20, 1, 11}, {2, 30, 10, 1, 11}, {2, 41, 30, 10, 1, 40, 11}, {50, 2, 10, 20, 1, 11},
            {61, 2, 41, 30, 10, 1, 60, 40, 11, 1}, {2, 10, 70, 1, 11}, {2, 80, 10, 81, 70, 1, 11, 11}};
        Run r = new Run(c).due(BAD, "trace(0)", "trace(-1)", "trace(23)", "trace(24)");
        for (int kind = 0; kind < 8; kind++) {
            r.make("body(" + kind + ")", "act(" + kind + ", 3, 1)").due("count(5)", longest[kind].length);
            for (int i = 0; i < longest[kind].length; i++) {
                r.due("trace(" + i + ")", longest[kind][i]);
            }
            r.due(BAD, "trace(" + longest[kind].length + ")", "trace(-1)", "trace(23)", "trace(24)", "trace(" + LEAST + ")", "trace(" + MOST + ")");
        }
    }

    private static void keepBounds() {
        c.says("A SHELF holds nothing (body -1), or a BODY: 1. BAD.");
        Run r = new Run(c).due(BAD, "keep(0, 0)", "keep(-1, -1)", "keep(6, -1)", "keep(" + LEAST + ", -1)", "keep(" + MOST + ", -1)");
        r.make("body(3)").due(BAD, "keep(0, -2)", "keep(0, 1)", "keep(0, " + LEAST + ")", "keep(0, " + MOST + ")", "keep(-1, 0)", "keep(6, 0)");
        r.due(Check.NOTHING_THERE, "taken(0, 0)", "taken(5, 0)");
        r.due(1, "keep(0, 0)", "keep(5, 0)").due(3, "taken(0, 0)", "taken(5, 0)").refused("keep(0, 1)", BAD, "taken(0, 0)").refused("keep(0, -2)", BAD, "taken(0, 0)");
        r.due(1, "keep(0, -1)", "keep(1, -1)").due(Check.NOTHING_THERE, "taken(0, 0)", "taken(1, 0)");
        r.make("row(2, 0, 3)").refused("keep(2, 7)", BAD, "element(2, 0)").due("keep(2, 0)", 1).due("taken(2, 3)", 3).due("element(2, 0)", Long.MIN_VALUE);
    }

    private static void rowBounds() {
        c.says("A SHELF holds a ROW: 1. BAD (sort, n above 60); -14.");
        Run r = new Run(c);
        for (int shelf : new int[] {-1, 6, LEAST, MOST}) {
            r.due(BAD, "row(" + shelf + ", 0, 1)", "row(" + shelf + ", 0, -1)", "row(" + shelf + ", 0, 61)", "row(" + shelf + ", 5, 1)");
        }
        r.due(BAD, "row(0, -1, 1)", "row(0, 5, 1)", "row(0, " + LEAST + ", 1)", "row(0, " + MOST + ", 1)", "row(0, 5, -1)", "row(0, -1, -1)");
        r.due(BAD, "row(0, 0, 61)", "row(0, 4, 61)", "row(0, 0, " + MOST + ")").due(Check.BELOW_ZERO, "row(0, 0, -1)", "row(5, 4, -1)", "row(0, 0, " + LEAST + ")");
        r.due(Check.NOTHING_THERE, "taken(0, 0)", "taken(5, 0)");
        for (int sort = 0; sort < 5; sort++) {
            r.due(1, "row(0, " + sort + ", 0)", "row(0, " + sort + ", 60)", "row(5, " + sort + ", 1)").due("element(0, 59)", 0).due("element(0, 60)", Long.MIN_VALUE);
        }
        r.make("row(0, 3, 60)", "put(0, 59, 7)").refused("row(0, 0, 61)", BAD, "element(0, 59)").refused("row(0, 0, -1)", Check.BELOW_ZERO, "element(0, 59)");
        r.refused("row(0, 5, 60)", BAD, "element(0, 59)").due("element(0, 59)", 7);
    }

    private static void rowSizes() {
        c.says("of 0 .. 60 elements, 0 at first (false)");
        Run r = new Run(c);
        for (int n : new int[] {0, 1, 59, 60}) {
            r.due("row(0, 3, " + n + ")", 1).due("put(0, " + n + ", 5)", Check.NO_PLACE).due("element(0, " + n + ")", Long.MIN_VALUE);
            if (n > 0) {
                r.due("put(0, " + (n - 1) + ", 5)", 1).due("element(0, " + (n - 1) + ")", 5).due("put(0, 0, 6)", 1);
                r.due("row(0, 3, " + n + ")", 1).due(0, "element(0, 0)", "element(0, " + (n - 1) + ")");
            }
        }
        r.make("row(1, 4, 60)");
        for (int i = 0; i < 60; i++) {
            r.due("element(1, " + i + ")", 0);
        }
        // what a longer ROW held does not come back
        r.make("row(2, 0, 60)", "put(2, 59, 9)", "row(2, 0, 1)", "row(2, 0, 60)").due("element(2, 59)", 0);
    }

    private static void bits(int sort, long[] values, long[] due) {
        Run r = new Run(c).make("row(0, " + sort + ", 1)");
        for (int i = 0; i < values.length; i++) {
            r.due("put(0, 0, " + values[i] + ")", 1).due("element(0, 0)", due[i]);
        }
    }

    private static void lowestBits() {
        c.says("what is put in keeps its lowest bits (a boolean: whether it is not 0; 1 or 0)");
        long big = 0x7FFFFFFF00000000L;
        bits(0, new long[] {-129, -128, 127, 128, 255, 256, big, Long.MIN_VALUE, Long.MAX_VALUE}, new long[] {127, -128, 127, -128, -1, 0, 0, 0, -1});
        bits(1, new long[] {-32769, -32768, 32767, 32768, 65535, 65536, big, Long.MIN_VALUE, Long.MAX_VALUE},
                new long[] {32767, -32768, 32767, -32768, -1, 0, 0, 0, -1});
        bits(2, new long[] {-2147483649L, LEAST, MOST, 2147483648L, 4294967295L, 4294967296L, big, Long.MIN_VALUE, Long.MAX_VALUE},
                new long[] {MOST, LEAST, MOST, LEAST, -1, 0, 0, 0, -1});
        bits(3, new long[] {Long.MIN_VALUE + 1, Long.MAX_VALUE, big, -1, 0}, new long[] {Long.MIN_VALUE + 1, Long.MAX_VALUE, big, -1, 0});
        bits(4, new long[] {1, 0, 2, 256, -1, big, Long.MIN_VALUE, 0}, new long[] {1, 0, 1, 1, 1, 1, 1, 0});
    }

    private static void putRefuses() {
        c.says("Element i of a ROW becomes v: 1. BAD, -11, -12, -13.");
        Run r = new Run(c).make("body(0)", "keep(1, 0)", "row(2, 2, 3)", "row(3, 2, 0)");
        r.due(BAD, "put(-1, 0, 1)", "put(6, 0, 1)", "put(" + LEAST + ", 0, 1)", "put(" + MOST + ", -1, 1)");
        r.due(Check.NOTHING_THERE, "put(0, 0, 1)", "put(5, -1, 1)").due(Check.OTHER_KIND, "put(1, 0, 1)", "put(1, -1, 1)");
        r.due(Check.NO_PLACE, "put(2, -1, 1)", "put(2, 3, 1)", "put(2, " + LEAST + ", 1)", "put(2, " + MOST + ", 1)", "put(3, 0, 1)");
        r.due(0, "element(2, 0)", "element(2, 1)", "element(2, 2)").due(1, "put(2, 0, 5)", "put(2, 2, 6)");
        r.due("element(2, 0)", 5).due("element(2, 1)", 0).due("element(2, 2)", 6);
    }

    private static void elementRefuses() {
        c.says("Element i of a ROW; Long.MIN_VALUE: BAD, -11 to -13.");
        Run r = new Run(c).make("body(0)", "keep(1, 0)", "row(2, 2, 3)", "row(3, 2, 0)");
        r.due(Long.MIN_VALUE, "element(-1, 0)", "element(6, 0)", "element(" + LEAST + ", 0)", "element(" + MOST + ", 0)", "element(0, 0)", "element(1, 0)");
        r.due(Long.MIN_VALUE, "element(2, -1)", "element(2, 3)", "element(2, " + LEAST + ")", "element(2, " + MOST + ")", "element(3, 0)");
        r.due(0, "element(2, 0)", "element(2, 2)");
    }

    /** SHELF 0: 1 2 3 4 5 and 1: 6 7 8, of bytes; 2: shorts; 3: a BODY; 4: nothing; 5: no bytes. */
    private static Run rows() {
        return new Run(c).bytes(0, 1, 2, 3, 4, 5).bytes(1, 6, 7, 8).shorts(2, 9, 9, 9).bytes(5).make("body(0)", "keep(3, 0)");
    }

    private static void holds(Run r, int shelf, int... due) {
        for (int i = 0; i < due.length; i++) {
            r.due("element(" + shelf + ", " + i + ")", due[i]);
        }
        r.due("element(" + shelf + ", " + due.length + ")", Long.MIN_VALUE);
    }

    private static void shiftRefuses() {
        c.says("BAD, -11 (either), -12 (no ROWS, or of unlike sorts), -13 (n below 0, too)");
        Run r = rows();
        r.due(BAD, "shift(-1, 0, 0, 0, 1)", "shift(6, 0, 0, 0, 1)", "shift(0, 0, -1, 0, 1)", "shift(0, 0, 6, 0, 1)", "shift(4, 0, 6, 0, 1)", "shift(6, 0, 4, -1, -1)");
        r.due(Check.NOTHING_THERE, "shift(4, 0, 0, 0, 1)", "shift(0, 0, 4, 0, 1)", "shift(4, 0, 4, 0, 0)", "shift(4, 0, 3, 0, 1)", "shift(3, 0, 4, -1, -1)");
        r.due(Check.OTHER_KIND, "shift(3, 0, 0, 0, 1)", "shift(0, 0, 3, 0, 1)", "shift(3, 0, 3, 0, 0)", "shift(0, 0, 2, 0, 1)", "shift(2, 0, 0, 0, 0)", "shift(0, -1, 2, 0, -1)");
        for (int sort = 1; sort < 5; sort++) {
            r.make("row(2, " + sort + ", 3)").due(Check.OTHER_KIND, "shift(0, 0, 2, 0, 1)", "shift(2, 0, 0, 0, 1)").due("shift(2, 0, 2, 1, 2)", 2);
        }
        holds(r, 0, 1, 2, 3, 4, 5);
        holds(r, 1, 6, 7, 8);
    }

    private static void shiftEdges() {
        c.says("-13 a place that is not there");
        Run r = rows();
        r.due(Check.NO_PLACE, "shift(0, -1, 1, 0, 1)", "shift(0, 5, 1, 0, 1)", "shift(0, 3, 1, 0, 3)", "shift(0, 6, 1, 0, 0)", "shift(0, -1, 1, 0, 0)");
        r.due(Check.NO_PLACE, "shift(0, 0, 1, -1, 1)", "shift(0, 0, 1, 3, 1)", "shift(0, 0, 1, 1, 3)", "shift(0, 0, 1, 4, 0)", "shift(0, 0, 1, -1, 0)");
        r.due(Check.NO_PLACE, "shift(0, 0, 1, 0, -1)", "shift(0, 0, 1, 0, 4)", "shift(0, 0, 0, 0, 6)", "shift(0, 0, 1, 0, " + LEAST + ")", "shift(0, 0, 1, 0, " + MOST + ")");
        r.due(Check.NO_PLACE, "shift(0, " + MOST + ", 1, 0, 1)", "shift(0, 0, 1, " + MOST + ", 1)", "shift(0, " + LEAST + ", 1, 0, 1)", "shift(0, " + MOST + ", 1, " + MOST + ", " + MOST + ")");
        r.due(Check.NO_PLACE, "shift(5, 0, 1, 0, 1)", "shift(0, 0, 5, 0, 1)", "shift(5, 1, 0, 0, 0)");
        holds(r, 0, 1, 2, 3, 4, 5);
        holds(r, 1, 6, 7, 8);
        r.due(0, "shift(0, 5, 1, 3, 0)", "shift(0, 0, 1, 0, 0)", "shift(5, 0, 5, 0, 0)", "shift(5, 0, 0, 5, 0)");
        holds(r, 1, 6, 7, 8);
        r.due("shift(0, 4, 1, 2, 1)", 1);
        holds(r, 1, 6, 7, 5);
        r.due("shift(0, 2, 1, 0, 3)", 3).due("shift(0, 0, 0, 0, 5)", 5);
        holds(r, 1, 3, 4, 5);
        r = new Run(c).like(0, 60, 3).make("row(1, 0, 60)").due("shift(0, 0, 1, 0, 60)", 60).due(3, "element(1, 0)", "element(1, 59)");
        r.due(Check.NO_PLACE, "shift(0, 0, 1, 0, 61)", "shift(0, 1, 1, 0, 60)", "shift(0, 0, 1, 1, 60)");
    }

    private static void shiftAsBefore() {
        c.says("n elements of a ROW from i on come to another one (or the same) from j on, as they all were before: n.");
        Run r = rows().due("shift(0, 0, 0, 1, 4)", 4);
        holds(r, 0, 1, 1, 2, 3, 4);
        r = rows().due("shift(0, 1, 0, 0, 4)", 4);
        holds(r, 0, 2, 3, 4, 5, 5);
        r = rows().due("shift(0, 0, 0, 2, 3)", 3);
        holds(r, 0, 1, 2, 1, 2, 3);
        r = rows().due("shift(0, 2, 0, 2, 3)", 3);
        holds(r, 0, 1, 2, 3, 4, 5);
        r = rows().due("shift(1, 0, 0, 2, 3)", 3);
        holds(r, 0, 1, 2, 6, 7, 8);
        holds(r, 1, 6, 7, 8);
    }

    private static void takenRefuses() {
        c.says("What a SHELF holds, taken for a BODY of KIND k (0 .. 7), or under it: its KIND. BAD, -11, -12.");
        Run r = new Run(c).due(BAD, "taken(-1, 0)", "taken(6, 0)", "taken(" + LEAST + ", 0)", "taken(" + MOST + ", 0)");
        r.due(BAD, "taken(0, -1)", "taken(0, 8)", "taken(0, " + LEAST + ")", "taken(0, " + MOST + ")").due(Check.NOTHING_THERE, "taken(0, 0)", "taken(5, 7)");
        for (int sort = 0; sort < 5; sort++) {
            r.make("row(0, " + sort + ", 1)").due(Check.OTHER_KIND, "taken(0, 0)", "taken(0, 7)").due(BAD, "taken(0, 8)");
        }
    }

    private static void takenUnder() {
        c.says("0 SAYING; 1 HINT under SAYING; 2 STAMMER under SAYING; 3 SONG under STAMMER; 4 PARROT under HINT; 5 CLERK under SONG; 6 FOREIGNER under SAYING; 7 CHILD under FOREIGNER.");
        String[] for0To7 = {"10000000", "11000000", "10100000", "10110000", "11001000", "10110100", "10000010", "10000011"};
        Run r = new Run(c);
        for (int kind = 0; kind < 8; kind++) {
            r.make("body(" + kind + ")", "keep(0, " + kind + ")");
            for (int k = 0; k < 8; k++) {
                r.due("taken(0, " + k + ")", for0To7[kind].charAt(k) == '1' ? kind : Check.OTHER_KIND);
            }
        }
    }

    private static void counts() {
        c.says("5 bodies that ran in the latest act() (all, kept or not). BAD.");
        Run r = new Run(c).due(BAD, "count(-1)", "count(6)", "count(" + LEAST + ")", "count(" + MOST + ")");
        r.due(0, "count(0)", "count(5)").make("body(5)", "act(0, 3, 1)").due("count(5)", 10).make("act(0, 0, 1)").due("count(5)", 1);
        c.says("How many: 0 WORDS, 1 PEOPLE, 2 bytes on THE TAPE, 3 changes that may be UNDONE, 4 BODIES");
        r.make("word(1, 11)", "person(1)", "person(1)", "feed(1)", "feed(1)", "feed(1)", "mend(0, 6, 1)", "mend(0, 6, 2)", "mend(0, 6, 3)", "mend(0, 6, 4)", "undo()");
        r.due("count(0)", 1).due("count(1)", 2).due("count(2)", 3).due("count(3)", 3).due("count(4)", 1);
    }
}
