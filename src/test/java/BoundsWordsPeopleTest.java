/** Each sentence on words, people and numbers that names a boundary: promises 1 to 6, and 7 and 8 as to THE TAPE. */
public final class BoundsWordsPeopleTest {
    private static final int BAD = Run.BAD, FULL = Run.FULL, LEAST = Run.LEAST, MOST = Run.MOST;
    private static final Check c = new Check("BoundsWordsPeopleTest");

    public static void main(String[] args) {
        newObject();
        wordsAsTheyCome();
        wordRanges();
        peopleAsTheyCome();
        mendRanges();
        atFirst();
        mendWithoutThem();
        mendOneNumberAlone();
        wordsFromARow();
        wordsFromARowRanges();
        wordsUntilFull();
        tape();
        c.end();
    }

    private static void newObject() {
        c.says("A table with a sum, nobody, no words.");
        Run r = new Run(c);
        r.due(0, "count(0)", "count(1)", "count(2)", "count(3)", "count(4)", "count(5)");
        r.due("sum(0)", 50);
        r.due(0, "led(0)", "led(1)", "led(2)", "led(3)", "led(5)");
        r.due("led(4)", Run.NOT);
        r.due(Check.NOTHING_THERE, "taken(0, 0)", "taken(5, 0)");
        r.due("trace(0)", BAD);
        c.says("public static final int BAD = -1, NOT = -2, FULL = -3, STATE = -5, VOID = -2000000000;");
        c.due("BAD", WhoMentionsIt.BAD, -1);
        c.due("NOT", WhoMentionsIt.NOT, -2);
        c.due("FULL", WhoMentionsIt.FULL, -3);
        c.due("STATE", WhoMentionsIt.STATE, -5);
        c.due("VOID", WhoMentionsIt.VOID, -2000000000);
    }

    private static void wordsAsTheyCome() {
        c.says("WORDS 0 .. 15, as they come");
        Run r = new Run(c);
        for (int i = 0; i < 16; i++) {
            r.due("of(" + i + ", 0)", BAD);
            r.due("word(" + i % 10 + ", 11)", i);
            r.due("count(0)", i + 1);
        }
        c.says("A WORD (kl: 10 times KIN, and LONG): its number. BAD, FULL: 16.");
        r.refused("word(0, 11)", FULL, "count(0)");
        r.refused("word(9, 79)", FULL, "of(15, 0)");
        r.due(BAD, "word(-1, 11)", "word(10, 11)", "word(0, 0)", "word(0, 81)");
        r.due("of(15, 0)", 5);
        r.due("of(16, 0)", BAD);
        r.due("count(0)", 16);
    }

    /** What a WORD may be, by word(). */
    private static void wordRanges() {
        c.says("NEAR (0 .. 9: how near it comes)");
        Run r = new Run(c);
        r.due(BAD, "word(-1, 11)", "word(10, 11)", "word(" + LEAST + ", 11)", "word(" + MOST + ", 11)");
        r.due("count(0)", 0);
        r.due("word(0, 11)", 0).due("of(0, 0)", 0);
        r.due("word(9, 11)", 1).due("of(1, 0)", 9);
        c.says("KIN (0 .. 7: what it is about;");
        r.due(BAD, "word(0, 81)", "word(0, 89)", "word(0, 801)", "word(0, -1)", "word(0, -9)", "word(0, -11)");
        r.due("count(0)", 2);
        r.due("word(0, 1)", 2).due("of(2, 1)", 0);
        r.due("word(0, 71)", 3).due("of(3, 1)", 7);
        c.says("LONG (1 .. 9)");
        r.due(BAD, "word(0, 0)", "word(0, 10)", "word(0, 70)", "word(0, 80)", "word(0, " + LEAST + ")", "word(0, " + MOST + ")");
        r.due("count(0)", 4);
        r.due("word(0, 1)", 4).due("of(4, 2)", 1);
        r.due("word(0, 9)", 5).due("of(5, 2)", 9);
        r.due("word(0, 79)", 6).due("of(6, 2)", 9).due("of(6, 1)", 7);
    }

    private static void peopleAsTheyCome() {
        c.says("PEOPLE 0 .. 6, as they come");
        Run r = new Run(c);
        for (int i = 0; i < 7; i++) {
            r.due("of(" + i + ", 3)", BAD);
            r.due("person(" + i + ")", i);
        }
        c.says("One with MEANS: its number. BAD, FULL: 7.");
        r.refused("person(0)", FULL, "count(1)");
        r.refused("person(9999)", FULL, "of(6, 3)");
        r.due(BAD, "person(-1)", "person(10000)");
        r.due("of(6, 3)", 6);
        r.due("of(7, 3)", BAD);
        r.due("count(1)", 7);
        c.says("MEANS (0 .. 9999;");
        r = new Run(c);
        r.due(BAD, "person(-1)", "person(10000)", "person(" + LEAST + ")", "person(" + MOST + ")");
        r.due("count(1)", 0);
        r.due("person(0)", 0).due("of(0, 3)", 0);
        r.due("person(9999)", 1).due("of(1, 3)", 9999);
    }

    private static Run two() {
        return new Run(c).make("word(4, 35)", "word(4, 35)", "person(77)", "person(77)");
    }

    private static void mendRanges() {
        range("NEAR (0 .. 9: how near it comes)", 0, 0, 9);
        range("KIN (0 .. 7: what it is about;", 1, 0, 7);
        range("LONG (1 .. 9)", 2, 1, 9);
        range("MEANS (0 .. 9999;", 3, 0, 9999);
        range("NERVE (0 .. 9;", 4, 0, 9);
        range("EARS (bits 0 .. 127:", 5, 0, 127);
        range("SUM (0 .. 9999;", 6, 0, 9999);
        range("GROWS (0 .. 99 a day;", 7, 0, 99);
        range("BOUND (1 .. 99;", 8, 1, 99);
        range("HALF (1 .. 99;", 9, 1, 99);
        c.says("As of mend() (0 to 9). BAD.");
        Run r = two();
        r.due(BAD, "of(0, -1)", "of(0, 10)", "of(0, " + LEAST + ")", "of(0, " + MOST + ")");
        r.due(BAD, "mend(0, -1, 1)", "mend(0, 10, 1)", "mend(0, " + LEAST + ", 1)", "mend(0, " + MOST + ", 1)");
        r.due("count(3)", 0);
    }

    private static void range(String sentence, int what, int least, int most) {
        c.says(sentence);
        int number = what < 6 ? 1 : 0;
        Run r = two();
        String of = "of(" + number + ", " + what + ")";
        String mend = "mend(" + number + ", " + what + ", ";
        for (long v : new long[] {least - 1, most + 1, LEAST, MOST}) {
            r.refused(mend + v + ")", BAD, of);
        }
        r.due("count(3)", 0);
        r.due(mend + least + ")", r.ask(of));
        r.due(of, least);
        r.due(mend + most + ")", least);
        r.due(of, most);
        r.refused(mend + (least - 1) + ")", BAD, of);
        r.refused(mend + (most + 1) + ")", BAD, of);
        r.due("count(3)", 2);
    }

    private static void atFirst() {
        Run r = two();
        c.says("NERVE (0 .. 9; 5 at first)");
        r.due(5, "of(0, 4)", "of(1, 4)");
        c.says("127 at first)");
        r.due(127, "of(0, 5)", "of(1, 5)");
        c.says("SUM (0 .. 9999; 50 at first)");
        r.due("of(0, 6)", 50);
        c.says("GROWS (0 .. 99 a day; 5 at first)");
        r.due("of(0, 7)", 5);
        c.says("BOUND (1 .. 99; 20 at first:");
        r.due("of(0, 8)", 20);
        c.says("HALF (1 .. 99; 12 at first)");
        r.due("of(0, 9)", 12);
    }

    /** The number of who or what must be there. */
    private static void mendWithoutThem() {
        c.says("NEAR (what 0), KIN (1), LONG (2) of a WORD, MEANS (3), NERVE (4), EARS (5) of one");
        Run none = new Run(c);
        Run r = two();
        for (int what = 0; what < 6; what++) {
            none.due(BAD, "mend(0, " + what + ", 1)", "of(0, " + what + ")");
            for (int number : new int[] {-1, 2, 7, 16, LEAST, MOST}) {
                r.due(BAD, "mend(" + number + ", " + what + ", 1)", "of(" + number + ", " + what + ")");
            }
            r.due("mend(1, " + what + ", 1)", r.ask("of(1, " + what + ")"));
        }
        r.due(4, "of(0, 0)");
        r.due(3, "of(0, 1)");
        r.due(5, "of(0, 2)", "of(0, 4)");
        r.due(77, "of(0, 3)");
        r.due(127, "of(0, 5)");
        none.due("count(3)", 0);
        // a WORD is none of the people, and none of the people is a WORD
        Run words = new Run(c).make("word(1, 11)");
        words.due(BAD, "of(0, 3)", "mend(0, 3, 1)", "mend(0, 5, 1)");
        Run people = new Run(c).make("person(1)");
        people.due(BAD, "of(0, 0)", "mend(0, 0, 1)", "mend(0, 2, 1)");
    }

    private static void mendOneNumberAlone() {
        c.says("SUM (6), GROWS (7), BOUND (8), HALF (9; number 0 for these, another: BAD) becomes v: what it was.");
        Run r = two();
        for (int what = 6; what < 10; what++) {
            for (int number : new int[] {-1, 1, 15, LEAST, MOST}) {
                r.refused("mend(" + number + ", " + what + ", 9)", BAD, "of(0, " + what + ")");
                r.due("of(" + number + ", " + what + ")", BAD);
            }
        }
        r.due("count(3)", 0);
        Run none = new Run(c);
        none.due("mend(0, 6, 9)", 50).due("mend(0, 7, 9)", 5).due("mend(0, 8, 9)", 20).due("mend(0, 9, 9)", 12);
        none.due("count(3)", 4);
    }

    private static void wordsFromARow() {
        c.says("from place i on, n (1 .. 16) of them");
        Run r = new Run(c).like(0, 48, 1);
        r.due(BAD, "words(0, 0, 0)", "words(0, 0, 17)", "words(0, 0, -1)", "words(0, 0, " + LEAST + ")", "words(0, 0, " + MOST + ")");
        r.due("count(0)", 0);
        r.due("words(0, 0, 1)", 1);
        r = new Run(c).like(0, 48, 1).due("words(0, 0, 16)", 16).due("count(0)", 16);
        c.says("how many came (0 with i below 0)");
        r = new Run(c).like(0, 6, 1);
        r.due(0, "words(0, -1, 1)", "words(0, -3, 16)", "words(0, " + LEAST + ", 1)", "count(0)");
        r.due("words(0, 0, 2)", 2);
        c.says("BAD, -12 (no ROW of bytes; a SHELF that holds nothing is missing)");
        r = new Run(c).due(0, "words(0, 0, 1)", "words(5, 0, 16)", "words(5, -1, 1)");
        r.due(BAD, "words(-1, 0, 1)", "words(6, 0, 1)", "words(0, 0, 17)", "words(" + LEAST + ", 0, 1)", "words(" + MOST + ", 0, 1)");
        for (int sort = 1; sort < 5; sort++) {
            r.make("row(0, " + sort + ", 6)").due(Check.OTHER_KIND, "words(0, 0, 1)", "words(0, -1, 1)", "words(0, 9, 1)");
            r.due(BAD, "words(0, 0, 0)", "words(0, 0, 17)");
        }
        r.make("body(0)", "keep(0, 0)").due("words(0, 0, 1)", Check.OTHER_KIND);
        r.make("keep(0, -1)").due("words(0, 0, 1)", 0);
        r.due("count(0)", 0);
        c.says("it ends where the row is missing, ends (within a three, too)");
        r = new Run(c).due("words(0, 0, 16)", 0);
        for (int length = 0; length < 8; length++) {
            r = new Run(c).like(0, length, 1).due("words(0, 0, 16)", length / 3);
            r.due("count(0)", length / 3);
        }
        r = new Run(c).like(0, 60, 1);
        r.due("words(0, 57, 2)", 1).due(0, "words(0, 58, 1)", "words(0, 59, 1)", "words(0, 60, 1)", "words(0, " + MOST + ", 1)");
        r.due(0, "words(0, " + (MOST - 1) + ", 16)", "words(0, " + (MOST - 2) + ", 16)").due("count(0)", 1);
    }

    private static void wordsFromARowRanges() {
        c.says("one is not as it may be");
        int[][] may = {{0, 0, 1}, {9, 7, 9}, {0, 7, 1}, {9, 0, 9}};
        int[][] mayNot = {{-1, 0, 1}, {10, 0, 1}, {0, -1, 1}, {0, 8, 1}, {0, 0, 0}, {0, 0, 10}, {0, 0, -1}, {127, 0, 1}, {0, -128, 1}};
        for (int[] m : may) {
            Run r = new Run(c).bytes(0, m[0], m[1], m[2]).due("words(0, 0, 2)", 1);
            r.due("of(0, 0)", m[0]).due("of(0, 1)", m[1]).due("of(0, 2)", m[2]);
        }
        for (int[] m : mayNot) {
            Run r = new Run(c).bytes(0, 1, 1, 1, m[0], m[1], m[2], 1, 1, 1);
            r.due("words(0, 3, 2)", 0).due("count(0)", 0);
            r.due("words(0, 0, 3)", 1).due("count(0)", 1);
        }
    }

    private static void wordsUntilFull() {
        c.says("or WORDS are FULL: those ahead came");
        for (int before = 11; before <= 16; before++) {
            Run r = new Run(c).like(0, 12, 2);
            for (int i = 0; i < before; i++) {
                r.make("word(1, 11)");
            }
            r.due("words(0, 0, 4)", Math.min(4, 16 - before)).due("count(0)", Math.min(16, before + 4));
            r.due("of(" + (before - 1) + ", 0)", 1).due("of(" + before + ", 0)", before < 16 ? 2 : BAD);
            r.due("words(0, 0, 1)", before == 11 ? 1 : 0).due("count(0)", 16);
        }
        c.says("Answers, of several the one named first: BAD (-1): no such number, or it is not as said;");
        Run r = new Run(c).like(0, 48, 1).make("words(0, 0, 16)", "row(0, 1, 3)");
        r.due("words(0, 0, 1)", Check.OTHER_KIND).due("words(0, 0, 0)", BAD).due("words(6, 0, 1)", BAD);
    }

    private static void tape() {
        c.says("A byte (0 .. 255) comes to THE TAPE: how many it has. BAD, FULL (120).");
        Run r = new Run(c);
        r.due(BAD, "feed(-1)", "feed(256)", "feed(" + LEAST + ")", "feed(" + MOST + ")").due("count(2)", 0);
        r.due("feed(0)", 1).due("feed(255)", 2);
        for (int i = 3; i <= 120; i++) {
            r.due("feed(" + (i % 256) + ")", i);
        }
        r.refused("feed(110)", FULL, "count(2)");
        r.due(FULL, "feed(0)", "feed(255)").due(BAD, "feed(-1)", "feed(256)");
        r.due("count(2)", 120);
        c.says("THE TAPE becomes THE LAW: 1; -100 less its FAULT; THE TAPE is empty then.");
        r.due("law()", -100).due("count(2)", 0).due("feed(110)", 1).due("law()", 1).due("count(2)", 0);
        r.due("law()", -100).due("count(2)", 0);
    }
}
