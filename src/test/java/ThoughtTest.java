/** Promises 9 to 14: sentences in thought. */
public final class ThoughtTest {
    private static final int BAD = WhoMentionsIt.BAD, NOT = WhoMentionsIt.NOT;
    private static final Check c = new Check("ThoughtTest");

    public static void main(String[] args) {
        refusals();
        said();
        owes();
        safely();
        pad();
        dangerous();
        wordForIt();
        bare();
        c.end();
    }

    private static void refusals() {
        WhoMentionsIt x = Check.people(100);
        x.word(1, 11);
        x.row(1, 1, 3);
        x.body(0);
        x.keep(2, 0);
        int[] shelves = {-1, 6, 0, 1, 2};
        int[] due = {BAD, BAD, Check.NOTHING_THERE, Check.OTHER_KIND, Check.OTHER_KIND};
        for (int i = 0; i < shelves.length; i++) {
            c.due("said on " + shelves[i], x.said(shelves[i], 0, 0), due[i]);
            c.due("safely on " + shelves[i], x.safely(shelves[i], 0, -1), due[i]);
            c.due("pad on " + shelves[i], x.pad(shelves[i], 0), due[i]);
            c.due("bad one first", x.said(shelves[i], 1, 0), BAD);
            c.due("bad what first", x.said(shelves[i], 0, 6), BAD);
            c.due("bad what first", x.said(shelves[i], 0, -1), BAD);
            c.due("bad one first", x.safely(shelves[i], 100, -1), BAD);
            c.due("bad ox first", x.safely(shelves[i], -1, -1), BAD);
            c.due("bad k first", x.safely(shelves[i], 0, -2), BAD);
            c.due("bad one first", x.pad(shelves[i], 100), BAD);
            c.due("bad ox first", x.pad(shelves[i], -100), BAD);
        }
        c.due("dangerous one", x.dangerous(1, 0), BAD);
        c.due("dangerous one", x.dangerous(-1, 0), BAD);
        c.due("dangerous what", x.dangerous(0, 2), BAD);
        c.due("dangerous what", x.dangerous(0, -1), BAD);
        c.due("wordFor word", x.wordFor(1, 0), BAD);
        c.due("wordFor word", x.wordFor(-1, 0), BAD);
        c.due("wordFor one", x.wordFor(0, 1), BAD);
        c.due("wordFor one", x.wordFor(0, -1), BAD);
        c.due("bare", x.bare(-1), BAD);
        c.due("bare", x.bare(100), BAD);
        c.due("bare", x.bare(Integer.MIN_VALUE), BAD);
        c.due("bare", x.bare(Integer.MAX_VALUE), BAD);
    }

    private static void said() {
        WhoMentionsIt x = Check.people(100);
        x.word(3, 11);
        x.word(5, 11);
        x.word(0, 21);
        Check.bytes(x, 0, 0, 1, 2, 0);
        c.due("like KINS behind one another", x.said(0, 0, 0), 3 + 5 + 3 + 0 + 3);
        Check.bytes(x, 0, 0, 1, 2, 1, 1, 3, 1);
        c.due("ends with what is no WORD", x.said(0, 0, 3), 5);
        c.due("NEAR", x.said(0, 0, 0), 3 + 8 + 0 + 5 + 10);
        c.due("MENTIONED", x.said(0, 0, 1), 2);
        c.due("behind which", x.said(0, 0, 2), 4);
        x.mend(0, 8, 26);
        c.due("at BOUND", x.said(0, 0, 1), 2);
        x.mend(0, 8, 27);
        c.due("below BOUND", x.said(0, 0, 1), 1);
        c.due("behind none", x.said(0, 0, 2), NOT);
        x.mend(0, 9, 26);
        c.due("at HALF", x.said(0, 0, 1), 1);
        x.mend(0, 9, 27);
        c.due("below HALF", x.said(0, 0, 1), 0);
        Check.bytes(x, 0, 2, 2, 2, 2, 2, 2, 2, 2, 2, 1, 1, 1);
        c.due("ten at most", x.said(0, 0, 3), 10);
        c.due("ten at most", x.said(0, 0, 0), 5);
        Check.bytes(x, 0);
        c.due("none", x.said(0, 0, 0), 0);
        c.due("none", x.said(0, 0, 3), 0);
        Check.bytes(x, 0, -1, 0);
        c.due("ends at once", x.said(0, 0, 3), 0);
        Check.law(x, "n-4");
        Check.bytes(x, 0, 1, 0, 2, 1, 0, 1, 0);
        c.due("the greatest of all sums", x.said(0, 0, 0), 1);
        Check.bytes(x, 0, 2, 2, 0);
        c.due("at least none", x.said(0, 0, 0), 0);
        Check.law(x, "p*v");
        Check.bytes(x, 0, 2, 2, 2);
        c.due("by place and NERVE", x.said(0, 0, 0), 15);
    }

    private static void owes() {
        WhoMentionsIt x = Check.people(50, 49);
        x.word(9, 11);
        x.word(7, 21);
        Check.bytes(x, 0, 0, 0);
        Check.bytes(x, 1, 1, 1);
        Check.bytes(x, 2, 1);
        c.due("MENTIONED", x.said(0, 0, 4), 50);
        c.due("within MEANS", x.said(0, 0, 5), 0);
        c.due("RUIN", x.said(0, 1, 5), 1);
        x.mend(0, 6, 51);
        c.due("HALF, cut", x.said(1, 0, 4), 51);
        x.mend(0, 8, 22);
        c.due("HALF, cut", x.said(1, 0, 4), 25);
        c.due("HALF is no RUIN", x.said(1, 1, 5), 0);
        c.due("neither", x.said(2, 0, 4), 0);
        x.mend(0, 3, 0);
        c.due("neither is no RUIN", x.said(2, 0, 5), 0);
        x.mend(1, 5, 2);
        c.due("heard by itself alone", x.said(0, 0, 4), 0);
        c.due("no RUIN unheard", x.said(0, 0, 5), 0);
        c.due("the other is heard", x.said(0, 1, 4), 51);
        x.mend(0, 5, 0);
        c.due("now neither is", x.said(0, 1, 4), 0);
        x.mend(1, 5, 1);
        c.due("heard", x.said(0, 0, 4), 51);
    }

    private static void safely() {
        WhoMentionsIt x = Check.people(100);
        x.word(3, 12);
        x.word(0, 14);
        x.word(2, 12);
        x.word(3, 12);
        x.word(1, 23);
        Check.bytes(x, 0, 1, 1);
        c.due("shortest", x.safely(0, 99, -1), 4);
        c.due("first by numbers", x.safely(0, 99, 0), 0);
        c.due("first by numbers", x.safely(0, 99, 1), 0);
        c.due("no nearer than 6", x.safely(0, 6, -1), 4);
        c.due("no nearer than 6", x.safely(0, 6, 0), 2);
        c.due("no nearer than 6", x.safely(0, 6, 1), 2);
        c.due("no nearer than 5", x.safely(0, 5, -1), 6);
        c.due("no nearer than 5", x.safely(0, 5, 0), 1);
        c.due("no nearer than 5", x.safely(0, 5, 1), 0);
        c.due("no nearer than 0", x.safely(0, 0, -1), 8);
        c.due("behind the last", x.safely(0, 99, 2), NOT);
        Check.bytes(x, 0, 1, 2, 1);
        c.due("no nearer than 0", x.safely(0, 0, -1), NOT);
        c.due("no nearer than 0", x.safely(0, 0, 0), NOT);
        c.due("no nearer than 1", x.safely(0, 1, -1), 11);
        c.due("no nearer than 1", x.safely(0, 1, 2), 1);
        Check.bytes(x, 0, 1, 3);
        c.due("no WORD of it", x.safely(0, 99, -1), NOT);
        Check.bytes(x, 0);
        c.due("no KIN", x.safely(0, 0, -1), 0);
        c.due("no KIN", x.safely(0, 0, 0), NOT);
        x.word(0, 75);
        Check.bytes(x, 0, 2, 7);
        c.due("the last KIN", x.safely(0, 99, -1), 8);
        Check.bytes(x, 0, 2, -1, 1);
        c.due("ends with what is no KIN", x.safely(0, 99, -1), 3);
        Check.bytes(x, 0, 2, 8, 1);
        c.due("ends with what is no KIN", x.safely(0, 99, -1), 3);
        Check.bytes(x, 0, 2, 2, 2, 2, 2, 2, 2, 2, 2, 2);
        c.due("eight at most", x.safely(0, 99, -1), 24);
        c.due("eight at most", x.safely(0, 99, 7), 4);
        c.due("eight at most", x.safely(0, 99, 8), NOT);
        x.mend(4, 2, 9);
        c.due("the longest way", x.safely(0, 99, -1), 72);
        c.due("the longest way", x.safely(0, 99, 7), 4);
        x.mend(4, 2, 3);
        c.due("1 and 7 times 2", x.safely(0, 14, -1), NOT);
        c.due("1 and 7 times 2", x.safely(0, 15, -1), 24);
    }

    private static void pad() {
        WhoMentionsIt x = Check.people(100);
        x.word(4, 11);
        x.word(0, 22);
        Check.bytes(x, 0, 1, 1, 1);
        c.due("none wanted", x.pad(0, 20), 0);
        c.due("one parts two", x.pad(0, 19), 1);
        c.due("one parts two", x.pad(0, 16), 1);
        c.due("two part all", x.pad(0, 15), 2);
        c.due("two part all", x.pad(0, 12), 2);
        c.due("no way", x.pad(0, 11), NOT);
        x.mend(1, 0, 1);
        c.due("what is put in counts, too", x.pad(0, 16), 2);
        c.due("what is put in counts, too", x.pad(0, 14), 2);
        c.due("what is put in counts, too", x.pad(0, 13), NOT);
        x.mend(1, 1, 1);
        c.due("1, 1 and 1, 1 and 1", x.pad(0, 5), 0);
        c.due("none of another KIN", x.pad(0, 4), NOT);
        Check.bytes(x, 0);
        c.due("no KIN", x.pad(0, 0), 0);
        Check.bytes(x, 0, 5);
        c.due("no WORD of it", x.pad(0, 99), NOT);
        x = Check.people(100);
        x.word(9, 11);
        x.word(9, 21);
        x.word(0, 31);
        Check.law(x, "n=0?-9;n");
        Check.bytes(x, 0, 1, 2);
        c.due("a WORD that draws away", x.pad(0, 18), 0);
        c.due("a WORD that draws away", x.pad(0, 17), 1);
        c.due("a WORD that draws away", x.pad(0, 9), 1);
        x.mend(2, 1, 2);
        c.due("the less NEAR one of the KIN", x.pad(0, 9), 0);
        c.due("not of a KIN beside it", x.pad(0, 8), NOT);
        Check.law(x, "n=0?-4;n");
        Check.bytes(x, 0, 1, 2, 1);
        x.mend(1, 0, 0);
        c.due("9, -4, 9", x.pad(0, 14), 0);
        c.due("a second one of KIN 2 would help", x.pad(0, 13), NOT);
        x.mend(1, 1, 3);
        c.due("one of KIN 3 may be put in", x.pad(0, 13), 1);
        c.due("one of KIN 3 may be put in", x.pad(0, 10), 1);
        c.due("two of KIN 3 may be put in", x.pad(0, 9), 2);
        Check.bytes(x, 0, 1, 1);
        x.mend(2, 1, 1);
        c.due("not of a KIN beside it", x.pad(0, 0), 0);
        c.due("the told KIN's own", x.safely(0, 0, 0), 2);
    }

    private static void dangerous() {
        WhoMentionsIt x = Check.people(100, 100);
        c.due("no WORDS", x.dangerous(0, 0), 0);
        c.due("no WORDS", x.dangerous(0, 1), NOT);
        x.word(9, 11);
        c.due("no pair", x.dangerous(0, 0), 0);
        x.word(9, 11);
        c.due("both ways", x.dangerous(0, 0), 2);
        c.due("the first", x.dangerous(0, 1), 1);
        x.mend(0, 8, 28);
        c.due("none", x.dangerous(0, 0), 0);
        x.mend(0, 8, 10);
        x.word(8, 21);
        Check.law(x, "p&(v>4)?n*2;0");
        c.due("by what stands behind", x.dangerous(0, 0), 6);
        x.mend(0, 8, 17);
        c.due("by what stands behind", x.dangerous(0, 0), 4);
        c.due("by what stands behind", x.dangerous(0, 1), 1);
        x.mend(0, 0, 8);
        c.due("by what stands behind", x.dangerous(0, 0), 2);
        x.mend(1, 4, 4);
        c.due("by the other's NERVE", x.dangerous(1, 0), 0);
        c.due("by the other's NERVE", x.dangerous(1, 1), NOT);
    }

    private static void wordForIt() {
        WhoMentionsIt x = Check.people(100, 100);
        x.word(5, 11);
        x.word(3, 11);
        x.word(3, 11);
        x.word(0, 21);
        c.due("least NEAR, least number", x.wordFor(0, 0), 1);
        c.due("least NEAR, least number", x.wordFor(2, 0), 1);
        c.due("it, too", x.wordFor(3, 0), 3);
        x.mend(1, 4, 9);
        Check.law(x, "v=9?9-n;n");
        c.due("by one", x.wordFor(1, 0), 1);
        c.due("by the other", x.wordFor(1, 1), 0);
    }

    private static void bare() {
        WhoMentionsIt x = Check.people(100, 100);
        c.due("no WORDS", x.bare(0), 0);
        x.word(5, 11);
        x.word(3, 11);
        x.word(9, 71);
        c.due("at 2", x.bare(2), 1 << 1 | 1 << 7);
        c.due("at 3", x.bare(3), 1 << 7);
        c.due("at 8", x.bare(108), 1 << 7);
        c.due("at 9", x.bare(109), 0);
        c.due("no such one", x.bare(209), BAD);
    }
}
