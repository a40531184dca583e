/** Each sentence on THE LAW and on how NEAR a SENTENCE comes by it that names a boundary: promises 7 to 9. */
public final class BoundsLawTest {
    private static final int BAD = Run.BAD, NOT = Run.NOT;
    private static final Check c = new Check("BoundsLawTest");

    public static void main(String[] args) {
        tapeLengths();
        lines();
        whichLineCounts();
        numbers();
        noBlanks();
        comparing();
        openAtOnce();
        wrapping();
        dividing();
        oneOrNought();
        faults();
        faultyLawChangesNothing();
        names();
        heldWithin();
        withoutAText();
        c.end();
    }

    private static void fault(String text, int place) {
        Run r = new Run(c).make("word(9, 11)", "person(5)").bytes(0, 0);
        r.law(text, -100 - place).due("count(2)", 0).due("said(0, 0, 0)", 9);
    }

    /** What a text gives for one WORD of NEAR 3, KIN 2, LONG 1; to be seen it must not be below 0. */
    private static void gives(String text, int due) {
        Run r = new Run(c).make("word(3, 21)", "person(5)").bytes(0, 0).law(text);
        r.due("said(0, 0, 0)", due);
    }

    private static String many(String part, int times) {
        return part.repeat(times);
    }

    private static void tapeLengths() {
        c.says("THE LAW is a TEXT by THE TAPE (at most 120 bytes)");
        gives("10" + many("+0", 58) + "+7", 17);
        gives("7" + many("+0", 59), 7);
        gives(many("0;", 59) + "10", 0);
        gives(many("0?1;", 29) + "n?8", 8);
        gives(many("0?1;", 29) + "0?88", 0);
        gives(many("p?1;", 29) + "b|08", 1);
        gives(many("(", 6) + many("n+", 53) + "n" + many(")", 6), 99);
        gives(many("-", 6) + many("n*", 56) + "13", 0);
        c.says("the length, if it ends too early");
        fault("7" + many("+0", 59) + "+", 120);
        fault(many("0;", 60), 120);
        fault(many("(", 6) + many("n+", 57), 120);
        fault(many("0?1;", 29) + "0?1|", 120);
        c.says("the place (from 0) of the first byte with which no TEXT goes on");
        fault("7" + many("+0", 59) + ")", 119);
        fault("77" + many("+0", 58) + "+x", 119);
        fault("x" + many("+0", 59), 0);
    }

    private static void lines() {
        c.says("LINES, one or more, parted by ;");
        fault("", 0);
        fault(";", 0);
        fault(";n", 0);
        fault("n;", 2);
        fault("n;;n", 2);
        gives("n", 3);
        gives("n;k", 3);
        c.says("LINE: E, or E ? E (what counts if the first is not 0).");
        fault("?", 0);
        fault("?n", 0);
        fault("n?", 2);
        fault("n??n", 2);
        fault("n?;n", 2);
        fault("n?k?l", 3);
        gives("n?k", 2);
    }

    private static void whichLineCounts() {
        c.says("(what counts if the first is not 0)");
        gives("1?5;7", 5);
        gives("-1?5;7", 5);
        gives("0?5;7", 7);
        gives("8192*8192*64?5;7", 7);
        gives("8192*8192*32?5;7", 5);
        c.says("The first LINE without a first E, or whose first E is not 0, counts; none: 0.");
        gives("4;5", 4);
        gives("0;5", 0);
        gives("0?4;0?5;6", 6);
        gives("0?4;1?5;6", 5);
        gives("1?0;6", 0);
        gives("0?4", 0);
        gives("0?4;0?5", 0);
    }

    private static void numbers() {
        c.says("O = a number (1 to 4 digits)");
        gives("7", 7);
        gives("07", 7);
        gives("0007", 7);
        fault("00007", 4);
        fault("n+12345", 6);
        gives("9999-9998", 1);
        gives("9999/101", 99);
        gives("0000", 0);
        fault("1n", 1);
        fault("n1", 1);
        fault("(1)1", 3);
    }

    private static void noBlanks() {
        c.says("No blanks.");
        fault(" n", 0);
        fault("n ", 1);
        fault("n +k", 1);
        fault("n+ k", 2);
        fault("( n)", 1);
        fault("1 2", 1);
        fault("n;\n", 2);
        fault("\tn", 0);
    }

    private static void comparing() {
        c.says("B = S, or S < S, S = S, S > S.");
        fault("1<2<3", 3);
        fault("1=2=3", 3);
        fault("1>2<3", 3);
        fault("1<2&1=2=3", 7);
        gives("(1<2)<3", 1);
        gives("1<2&2<3", 1);
        String[] less = {"2<3", "3<3", "4<3", "2=3", "3=3", "4=3", "2>3", "3>3", "4>3"};
        int[] due = {1, 0, 0, 0, 1, 0, 0, 0, 1};
        for (int i = 0; i < less.length; i++) {
            gives(less[i], due[i]);
        }
        gives("-3<-2", 1);
        gives("-3>-2", 0);
        gives("0-3=-3", 1);
        gives("8192*8192*32<0", 1);
        gives("8192*8192*32-1>8192*8192*32", 1);
    }

    private static void openAtOnce() {
        c.says("At most 6 of ( ! - ahead of an O are open at once.");
        gives("((((((5))))))", 5);
        gives("!!!!!!5", 1);
        gives("------5", 5);
        fault("(((((((5)))))))", 6);
        fault("!!!!!!!5", 6);
        fault("-------5", 6);
        gives("(-!(-!5)+7)", 6);
        gives("(!-(!-5)+7)", 8);
        fault("(!-(!-(5)))", 6);
        fault("(!-(!-!5))", 6);
        fault("(!-(!--5))", 6);
        gives("!!!!!!5+!!!!!!5*------3", 4);
        gives("((((((5))))))+((((((4))))))", 9);
        fault("((((((5))))))+(((((((4)))))))", 20);
        gives("(!!!!!5+-----4*-----2)", 8);
        fault("(!!!!!5+------4)", 13);
        gives("((((((5-4-3*2+9))))))", 4);
        gives("!!!!!!5?------4;------3", 4);
        fault("!!!!!!5?-------4", 14);
    }

    private static void wrapping() {
        c.says("Ints that wrap");
        gives("8192*8192*31+(8191*8192+8191)=8192*8192*32-1", 1);
        gives("8192*8192*32-1+1=8192*8192*32", 1);
        gives("8192*8192*32-1>0", 1);
        gives("8192*8192*32-1+1<0", 1);
        gives("-(8192*8192*32)<0", 1);
        gives("-(8192*8192*32)=8192*8192*32", 1);
        gives("8192*8192*64=0", 1);
        gives("9999*9999*22<0", 1);
        gives("9999*9999*21>0", 1);
        gives("(8192*8192*32-1)*2=-2", 1);
        gives("(8192*8192*32-1)*2+50", 48);
    }

    private static void dividing() {
        c.says("/ and % toward 0, by 0 they give 0");
        gives("10+7/2", 13);
        gives("10+-7/2", 7);
        gives("10+7/-2", 7);
        gives("10+-7/-2", 13);
        gives("10+-1/2", 10);
        gives("10+7%4", 13);
        gives("10+-7%4", 7);
        gives("10+7%-4", 13);
        gives("10+-7%-4", 7);
        gives("10+7/0", 10);
        gives("10+7%0", 10);
        gives("10+0/0+0%0", 10);
        gives("10+-7/0+-7%0", 10);
        gives("10+7/(n-3)*9", 10);
        gives("8192*8192*32/-1=8192*8192*32", 1);
        gives("8192*8192*32%-1", 0);
        gives("8192*8192*32/1<0", 1);
    }

    private static void oneOrNought() {
        c.says("| & < = > ! give 1, 0");
        gives("0|0", 0);
        gives("5|0", 1);
        gives("0|-5", 1);
        gives("5|5", 1);
        gives("5&0", 0);
        gives("0&5", 0);
        gives("-5&2", 1);
        gives("4&3", 1);
        gives("8192*8192*32&8192*8192*32", 1);
        gives("8192*8192*32|0", 1);
        gives("!0", 1);
        gives("!1", 0);
        gives("!-1", 0);
        gives("!9", 0);
        c.says("all is worked out");
        gives("0&1/0", 0);
        gives("1|1/0", 1);
        gives("0?1/0;7", 7);
        gives("1?7;1/0", 7);
    }

    private static void faults() {
        c.says("FAULT: the place (from 0) of the first byte with which no TEXT goes on");
        String[] signs = {"|", "&", "<", "=", ">", "+", "*", "/", "%", "?", ";", ")"};
        for (String s : signs) {
            fault(s, 0);
            fault("(" + s, 1);
        }
        for (String s : new String[] {"|", "&", "<", "=", ">", "+", "-", "*", "/", "%", "?", ";"}) {
            fault("n" + s, 2);
            fault("n" + s + ")", 2);
            fault("n" + s + "|", 2);
            gives("3" + s + "3", s.equals("|") || s.equals("&") || s.equals("=") || s.equals("/") ? 1
                    : s.equals("+") ? 6 : s.equals("*") ? 9 : s.equals("?") || s.equals(";") ? 3 : 0);
        }
        fault("n)", 1);
        fault("(n))", 3);
        fault("()", 1);
        fault("(n", 2);
        fault("(n;k)", 2);
        fault("(n?k)", 2);
        fault("!", 1);
        fault("-", 1);
        fault("(", 1);
        fault("n!", 1);
        fault("n(", 1);
        fault("nk", 1);
        fault("n--", 3);
        gives("9--n", 12);
        // the letters right beside the signs and names
        for (char letter : ":@`amoqujwx{}~^_#$'\",.".toCharArray()) {
            fault("" + letter, 0);
            fault("n+" + letter, 2);
            fault("n" + letter, 1);
        }
        fault("" + (char) 0, 0);
        fault("" + (char) 255, 0);
        fault("n" + (char) 238, 1);
        fault("N", 0);
    }

    private static void faultyLawChangesNothing() {
        c.says("-100 less its FAULT; THE TAPE is empty then.");
        Run r = new Run(c).make("word(9, 11)", "person(5)").bytes(0, 0).law("n*7");
        r.due("said(0, 0, 0)", 63);
        r.law("n*", -102).due("count(2)", 0).due("said(0, 0, 0)", 63);
        r.law("", -100).due("said(0, 0, 0)", 63);
        r.law("1;x", -102).due("said(0, 0, 0)", 63);
        r.law("5").due("said(0, 0, 0)", 5);
    }

    private static void names() {
        c.says("p its place (0 on)");
        Run r = new Run(c).make("word(0, 11)", "person(5)").like(0, 12, 0).law("p=0");
        r.due("said(0, 0, 2)", NOT).due("said(0, 0, 0)", 1);
        r.law("(p=9)*7").due("said(0, 0, 0)", 7);
        r.law("(p>9)*7").due("said(0, 0, 0)", 0);
        r.law("p").due("said(0, 0, 0)", 45);
        c.says("b NEAR of the WORD right ahead, if it is of the same KIN, else 0 (none ahead, too)");
        r = new Run(c).make("word(9, 11)", "word(0, 11)", "word(7, 71)", "word(9, 1)", "person(5)").law("b");
        r.bytes(0, 0).due("said(0, 0, 0)", 0);
        r.bytes(0, 0, 0).due("said(0, 0, 0)", 9);
        r.bytes(0, 1, 0).due("said(0, 0, 0)", 0);
        r.bytes(0, 0, 1).due("said(0, 0, 0)", 9);
        r.bytes(0, 0, 2).due("said(0, 0, 0)", 0);
        r.bytes(0, 0, 2, 0).due("said(0, 0, 0)", 0);
        r.bytes(0, 3, 0).due("said(0, 0, 0)", 0);
        r.bytes(0, 2, 2, 2).due("said(0, 0, 0)", 14);
        c.says("v the NERVE of who says it");
        r.make("person(5)", "mend(0, 4, 0)", "mend(1, 4, 9)").law("v").bytes(0, 0);
        r.due("said(0, 0, 0)", 0).due("said(0, 1, 0)", 9);
        c.says("n NEAR, k KIN, l LONG of a WORD");
        r = new Run(c).make("word(0, 1)", "word(9, 79)", "person(5)");
        String[] texts = {"n", "k", "l"};
        int[][] due = {{0, 9}, {0, 7}, {1, 9}};
        for (int i = 0; i < 3; i++) {
            r.law(texts[i]);
            r.bytes(0, 0).due("said(0, 0, 0)", due[i][0]);
            r.bytes(0, 1).due("said(0, 0, 0)", due[i][1]);
        }
    }

    private static void heldWithin() {
        c.says("It gives by how much a WORD comes nearer (held within -99 .. 99).");
        gives("98", 98);
        gives("99", 99);
        gives("100", 99);
        gives("9999", 99);
        gives("8192*8192*32-1", 99);
        gives("8192*8192*32", 0);
        // 99, 99, what is told, 99, 99: the greatest of all sums tells what the third one drew away
        String[] away = {"-98", "-99", "-100", "-9999", "8192*8192*32"};
        int[] due = {298, 297, 297, 297, 297};
        for (int i = 0; i < away.length; i++) {
            Run r = new Run(c).make("word(0, 11)", "person(5)").like(0, 5, 0).law("p=2?" + away[i] + ";99");
            r.due("said(0, 0, 0)", due[i]);
        }
        c.says("the greatest of all sums of what its WORDS give from any one WORD on to any one (at least none: 0)");
        gives("-1", 0);
        gives("0", 0);
        gives("1", 1);
        Run r = new Run(c).make("word(0, 11)", "person(5)").like(0, 10, 0).law("99");
        r.due("said(0, 0, 0)", 990);
        r.law("-99").due("said(0, 0, 0)", 0);
        r.law("p=9?4;-9").due("said(0, 0, 0)", 4);
        r.law("p=0?4;-9").due("said(0, 0, 0)", 4);
        r.law("p<3?5;p=3?-14;p<7?5;-9").due("said(0, 0, 0)", 16);
        r.law("p<3?5;p=3?-15;p<7?5;-9").due("said(0, 0, 0)", 15);
        r.law("p<3?5;p=3?-16;p<7?6;-9").due("said(0, 0, 0)", 18);
        r.like(0, 0, 0).due("said(0, 0, 0)", 0);
    }

    private static void withoutAText() {
        c.says("Without a text: n and b.");
        Run r = new Run(c).make("word(9, 11)", "word(9, 21)", "word(0, 31)", "person(5)");
        r.bytes(0, 0, 0).due("said(0, 0, 0)", 27);
        r.bytes(0, 0, 1).due("said(0, 0, 0)", 18);
        r.bytes(0, 2, 2).due("said(0, 0, 0)", 0);
        r.like(0, 10, 0).due("said(0, 0, 0)", 9 + 9 * 18);
        r.due("law()", -100).due("said(0, 0, 0)", 171);
        r.due("said(0, 0, 6)", BAD);
    }
}
