/** Promises 1 to 8: a new object, words, people, what is mended, the tape and the law. */
public final class WordsPeopleTest {
    private static final int BAD = WhoMentionsIt.BAD, FULL = WhoMentionsIt.FULL;
    private static final Check c = new Check("WordsPeopleTest");

    public static void main(String[] args) {
        newObject();
        word();
        wordsFromRows();
        person();
        mendAndOf();
        feed();
        lawTexts();
        lawFaults();
        c.end();
    }

    private static void newObject() {
        WhoMentionsIt x = new WhoMentionsIt();
        for (int what = 0; what < 6; what++) {
            c.due("new count " + what, x.count(what), 0);
        }
        c.due("new SUM", x.of(0, 6), 50);
        c.due("new GROWS", x.of(0, 7), 5);
        c.due("new BOUND", x.of(0, 8), 20);
        c.due("new HALF", x.of(0, 9), 12);
        for (int shelf = 0; shelf < 6; shelf++) {
            c.due("new shelf", x.taken(shelf, 0), Check.NOTHING_THERE);
        }
        c.due("new teller", x.led(4), WhoMentionsIt.NOT);
        c.due("new image", x.back(), WhoMentionsIt.STATE);
    }

    private static void word() {
        WhoMentionsIt x = new WhoMentionsIt();
        int[][] bad = {{-1, 11}, {10, 11}, {0, 0}, {0, 10}, {0, 80}, {0, 81}, {0, -1}, {0, -9}, {0, Integer.MIN_VALUE},
            {Integer.MAX_VALUE, 11}, {0, Integer.MAX_VALUE}};
        for (int[] b : bad) {
            c.due("word " + b[0] + " " + b[1], x.word(b[0], b[1]), BAD);
        }
        c.due("first", x.word(9, 79), 0);
        c.due("second", x.word(0, 1), 1);
        c.due("NEAR", x.of(0, 0), 9);
        c.due("KIN", x.of(0, 1), 7);
        c.due("LONG", x.of(0, 2), 9);
        c.due("least LONG", x.of(1, 2), 1);
        for (int i = 2; i < 16; i++) {
            c.due("word", x.word(i % 10, 11), i);
        }
        c.due("full", x.word(1, 11), FULL);
        c.due("bad ahead of full", x.word(10, 11), BAD);
        c.due("count", x.count(0), 16);
    }

    private static void wordsFromRows() {
        WhoMentionsIt x = new WhoMentionsIt();
        c.due("missing row", x.words(0, 0, 1), 0);
        Check.bytes(x, 0, 1, 2, 3, 9, 7, 9, 10, 0, 1, 0, 0, 1);
        c.due("no such shelf", x.words(-1, 0, 1), BAD);
        c.due("no such shelf", x.words(6, 0, 1), BAD);
        c.due("n 0", x.words(0, 0, 0), BAD);
        c.due("n 17", x.words(0, 0, 17), BAD);
        c.due("i below 0", x.words(0, -1, 1), 0);
        c.due("i least", x.words(0, Integer.MIN_VALUE, 1), 0);
        c.due("i greatest", x.words(0, Integer.MAX_VALUE, 1), 0);
        c.due("ends at what may not be", x.words(0, 0, 16), 2);
        c.due("KIN of the second", x.of(1, 1), 7);
        c.due("from the last three", x.words(0, 9, 2), 1);
        c.due("within a three", x.words(0, 10, 1), 0);
        c.due("count", x.count(0), 3);
        x.row(1, 1, 3);
        c.due("shorts", x.words(1, 0, 1), Check.OTHER_KIND);
        c.due("shorts, i below 0", x.words(1, -1, 1), Check.OTHER_KIND);
        x.body(0);
        x.keep(2, 0);
        c.due("a BODY", x.words(2, 0, 1), Check.OTHER_KIND);
        for (int i = 3; i < 15; i++) {
            x.word(0, 1);
        }
        c.due("until they are FULL", x.words(0, 0, 2), 1);
        c.due("FULL", x.words(0, 0, 2), 0);
        c.due("count", x.count(0), 16);
    }

    private static void person() {
        WhoMentionsIt x = new WhoMentionsIt();
        c.due("below", x.person(-1), BAD);
        c.due("above", x.person(10000), BAD);
        c.due("least", x.person(0), 0);
        c.due("most", x.person(9999), 1);
        c.due("MEANS", x.of(1, 3), 9999);
        c.due("NERVE", x.of(1, 4), 5);
        c.due("EARS", x.of(1, 5), 127);
        for (int i = 2; i < 7; i++) {
            c.due("person", x.person(i), i);
        }
        c.due("full", x.person(1), FULL);
        c.due("bad ahead of full", x.person(-1), BAD);
        c.due("count", x.count(1), 7);
    }

    private static void mendAndOf() {
        int[] least = {0, 0, 1, 0, 0, 0, 0, 0, 1, 1};
        int[] most = {9, 7, 9, 9999, 9, 127, 9999, 99, 99, 99};
        WhoMentionsIt x = Check.people(10, 20);
        x.word(4, 35);
        x.word(4, 35);
        for (int what = 0; what < 10; what++) {
            int number = what < 6 ? 1 : 0;
            int was = x.of(number, what);
            c.due("below " + what, x.mend(number, what, least[what] - 1), BAD);
            c.due("above " + what, x.mend(number, what, most[what] + 1), BAD);
            c.due("unchanged " + what, x.of(number, what), was);
            c.due("least " + what, x.mend(number, what, least[what]), was);
            c.due("most " + what, x.mend(number, what, most[what]), least[what]);
            c.due("of " + what, x.of(number, what), most[what]);
            c.due("number 2 " + what, x.mend(2, what, most[what]), BAD);
            c.due("number -1 " + what, x.mend(-1, what, most[what]), BAD);
            c.due("of number 2 " + what, x.of(2, what), BAD);
            c.due("of number -1 " + what, x.of(-1, what), BAD);
        }
        c.due("SUM of 1", x.mend(1, 6, 5), BAD);
        c.due("of 1", x.of(1, 6), BAD);
        c.due("what -1", x.mend(0, -1, 1), BAD);
        c.due("what 10", x.mend(0, 10, 1), BAD);
        c.due("of -1", x.of(0, -1), BAD);
        c.due("of 10", x.of(0, 10), BAD);
    }

    private static void feed() {
        WhoMentionsIt x = new WhoMentionsIt();
        c.due("below", x.feed(-1), BAD);
        c.due("above", x.feed(256), BAD);
        for (int i = 0; i < 120; i++) {
            c.due("feed", x.feed(i == 0 ? 255 : 0), i + 1);
        }
        c.due("bad ahead of full", x.feed(-1), BAD);
        c.due("full", x.feed(65), FULL);
        c.due("on the tape", x.count(2), 120);
        c.due("fault at once", x.law(), -100);
        c.due("empty then", x.count(2), 0);
    }

    /** What a law gives for a SENTENCE of the WORD (NEAR 7, KIN 3, LONG 4) behind a like one of NEAR 2, cut out by b. */
    private static int given(String law) {
        WhoMentionsIt x = Check.people(100);
        x.word(2, 35);
        x.word(7, 34);
        x.mend(0, 4, 8);
        // the first WORD gives -99, so the second one's gift stands alone
        int answer = Check.law(x, "(p=0)?-99;" + law);
        Check.bytes(x, 0, 0, 1);
        return answer == 1 ? x.said(0, 0, 0) : answer;
    }

    private static void lawTexts() {
        c.due("n", given("n"), 7);
        c.due("k", given("k"), 3);
        c.due("l", given("l"), 4);
        c.due("p", given("p"), 1);
        c.due("b", given("b"), 2);
        c.due("v", given("v"), 8);
        c.due("product first", given("2+3*4"), 14);
        c.due("from the left", given("20-3-4"), 13);
        c.due("from the left", given("90/4*3%50"), 16);
        c.due("held above", given("9999"), 99);
        c.due("held below", given("-9999"), 0);
        c.due("by 0", given("5+n/0+n%0"), 5);
        c.due("toward 0", given("10+-7/2"), 7);
        c.due("toward 0", given("10+-7%4"), 7);
        c.due("wraps", given("9999*9999*9999"), 0);
        c.due("five digits", given("46341*46341<0"), -114);
        c.due("wraps", given("9999*9999*22<0"), 1);
        c.due("or", given("4|0"), 1);
        c.due("or", given("0|0|0"), 0);
        c.due("and", given("4&3"), 1);
        c.due("and", given("4&3&0"), 0);
        c.due("and ahead of or", given("1|0&0"), 1);
        c.due("not", given("!0+!7"), 1);
        c.due("not binds first", given("!0*8"), 8);
        c.due("one value stays", given("(6)"), 6);
        c.due("compares", given("(3<4)+(4<3)*2+(4=4)*4+(4=3)*8+(5>4)*16+(4>5)*32"), 21);
        c.due("sums ahead of comparing", given("2+3=5"), 1);
        c.due("lines", given("0?5;n=7?6;8"), 6);
        c.due("lines", given("0?5;n=6?6;8"), 8);
        c.due("no line counts", given("0?5;0?6"), 0);
        c.due("lines behind one that counts", given("9;8"), 9);
        c.due("minus of minus", given("----5"), 5);
        c.due("six open", given("((((((5))))))"), 5);
        c.due("six open, closed, six more", given("!!!!!!5+------5"), 6);
        c.due("four digits", given("0099"), 99);
    }

    private static void lawFaults() {
        String[] texts = {"", "n;", "n?", "n?n?n", "+", "n+", "nn", "n n", "x", "12345", "(n", "(n]", "()", "n)",
            "1<2<3", "(1<2)<3x", "n;;n", "(n?n)", "(((((((n", "-------n", "!(-!(-(n", "((((((-n", "n|", "n|&", "n&&n",
            "n==n", "n**n", "n*-", "1<", "N", "n?n;n?", "(1;2)"};
        int[] faults = {0, 2, 2, 3, 0, 2, 1, 1, 0, 4, 2, 2, 1, 1,
            3, 7, 2, 2, 6, 6, 6, 6, 2, 2, 2,
            2, 2, 3, 2, 0, 6, 2};
        for (int i = 0; i < texts.length; i++) {
            c.due("fault of " + texts[i], Check.law(new WhoMentionsIt(), texts[i]), -100 - faults[i]);
        }
        WhoMentionsIt x = Check.people(100);
        x.word(3, 11);
        Check.bytes(x, 0, 0);
        c.due("without a text", x.said(0, 0, 0), 3);
        c.due("a law", Check.law(x, "n*5"), 1);
        c.due("by it", x.said(0, 0, 0), 15);
        c.due("a faulty one", Check.law(x, "n*"), -102);
        c.due("tape", x.count(2), 0);
        c.due("the law stays", x.said(0, 0, 0), 15);
    }
}
