/** Each sentence on sentences in thought that names a boundary: promises 9 to 14. */
public final class BoundsThoughtTest {
    private static final int BAD = Run.BAD, NOT = Run.NOT, LEAST = Run.LEAST, MOST = Run.MOST;
    private static final Check c = new Check("BoundsThoughtTest");

    public static void main(String[] args) {
        shelvesOfBytesAlone();
        sentenceLengths();
        sentenceEnds();
        saidWhats();
        mentionedAndHalf();
        behindWhich();
        owesHalf();
        owesIfHeard();
        ruin();
        safelyNumbers();
        safelyKins();
        safelyNoNearer();
        safelyShortest();
        padNoNearer();
        padOfAnotherKin();
        padFull();
        dangerous();
        dangerousNumbers();
        wordForIt();
        bare();
        bareNumbers();
        c.end();
    }

    private static void shelvesOfBytesAlone() {
        c.says("a SENTENCE on a SHELF; BAD, -11, -12 (no ROW of bytes)");
        String[] calls = {"said(S, 0, 0)", "safely(S, 0, -1)", "pad(S, 0)"};
        for (String call : calls) {
            Run r = new Run(c).make("person(9)", "body(0)");
            for (int shelf : new int[] {-1, 6, LEAST, MOST}) {
                r.due(call.replace("S", "" + shelf), BAD);
            }
            for (int shelf = 0; shelf < 6; shelf++) {
                r.due(call.replace("S", "" + shelf), Check.NOTHING_THERE);
            }
            for (int sort = 1; sort < 5; sort++) {
                r.make("row(5, " + sort + ", 3)").due(call.replace("S", "5"), Check.OTHER_KIND);
                r.make("row(5, " + sort + ", 0)").due(call.replace("S", "5"), Check.OTHER_KIND);
            }
            r.make("keep(5, 0)").due(call.replace("S", "5"), Check.OTHER_KIND);
            r.make("row(5, 0, 0)").due(call.replace("S", "5"), 0);
            r.make("keep(5, -1)").due(call.replace("S", "5"), Check.NOTHING_THERE);
        }
    }

    private static void sentenceLengths() {
        c.says("WORDS, one behind the other (10 at most; it ends with what is no WORD)");
        for (int length : new int[] {0, 1, 9, 10, 11, 60}) {
            Run r = new Run(c).make("word(1, 11)", "person(9)").like(0, length, 0);
            r.due("said(0, 0, 3)", Math.min(10, length));
            r.due("said(0, 0, 0)", length == 0 ? 0 : 2 * Math.min(10, length) - 1);
        }
        // the eleventh neither counts nor is looked at
        Run r = new Run(c).make("word(0, 11)", "word(9, 21)", "person(9)").like(0, 12, 0);
        r.make("put(0, 10, 1)", "put(0, 11, 1)").due("said(0, 0, 0)", 0);
        r.make("put(0, 9, 1)").due("said(0, 0, 0)", 9).due("said(0, 0, 3)", 10);
    }

    private static void sentenceEnds() {
        c.says("it ends with what is no WORD");
        for (int end : new int[] {-128, -2, -1, 3, 16, 127}) {
            Run r = new Run(c).make("word(1, 11)", "word(1, 21)", "word(1, 31)", "person(9)").bytes(0, 2, end, 2);
            r.due("said(0, 0, 3)", 1).due("said(0, 0, 0)", 1);
            r.bytes(0, end, 2, 2).due("said(0, 0, 3)", 0).due("said(0, 0, 0)", 0).due("said(0, 0, 1)", 0);
        }
        Run r = new Run(c).make("word(1, 11)", "word(1, 21)", "person(9)").bytes(0, 1, 2, 0);
        r.due("said(0, 0, 3)", 1).make("word(5, 31)").due("said(0, 0, 3)", 3);
        r = new Run(c).make("person(9)").bytes(0, 15, 15);
        for (int i = 0; i < 16; i++) {
            r.due("said(0, 0, 3)", 0).make("word(1, 11)");
        }
        r.due("said(0, 0, 3)", 2).bytes(0, 16, 0).due("said(0, 0, 3)", 0);
    }

    private static void saidWhats() {
        c.says("How NEAR (what 0), MENTIONED and so on (1), behind which WORD (2; NOT), how many WORDS (3)");
        Run r = new Run(c).make("word(9, 11)", "person(9)", "person(9)").bytes(0, 0, 0);
        r.due(BAD, "said(0, 0, -1)", "said(0, 0, 6)", "said(0, 0, " + LEAST + ")", "said(0, 0, " + MOST + ")");
        r.due(BAD, "said(0, -1, 0)", "said(0, 2, 0)", "said(0, " + LEAST + ", 0)", "said(0, " + MOST + ", 0)");
        r.due(27, "said(0, 0, 0)", "said(0, 1, 0)").due("said(0, 1, 5)", 1);
    }

    private static void mentionedAndHalf() {
        c.says("It is MENTIONED, if that is BOUND or more; else HALF said, if it is HALF or more.");
        int[][] boundHalfDue = {{26, 1, 2}, {27, 1, 2}, {28, 1, 1}, {28, 26, 1}, {28, 27, 1}, {28, 28, 0}, {99, 27, 1},
            {99, 28, 0}, {1, 1, 2}, {1, 99, 2}, {27, 27, 2}, {27, 99, 2}};
        Run r = new Run(c).make("word(9, 11)", "person(9)").bytes(0, 0, 0).bytes(1);
        for (int[] b : boundHalfDue) {
            r.make("mend(0, 8, " + b[0] + ")", "mend(0, 9, " + b[1] + ")").due("said(0, 0, 1)", b[2]);
            r.due("said(1, 0, 1)", 0);
        }
    }

    private static void behindWhich() {
        c.says("the first WORD behind which it is MENTIONED (NOT)");
        Run r = new Run(c).make("word(2, 11)", "word(0, 21)", "person(9)").bytes(0, 0, 1, 0, 1, 0);
        int[] bounds = {1, 2, 3, 4, 5, 6, 7};
        int[] due = {0, 0, 2, 2, 4, 4, NOT};
        for (int i = 0; i < bounds.length; i++) {
            r.make("mend(0, 8, " + bounds[i] + ")").due("said(0, 0, 2)", due[i]);
        }
        r.bytes(1).due("said(1, 0, 2)", NOT);
        r.make("mend(0, 8, 1)").bytes(1, 1, 1, 1).due("said(1, 0, 2)", NOT);
        r.like(1, 10, 1).make("put(1, 9, 0)").due("said(1, 0, 2)", 9);
    }

    private static void owesHalf() {
        c.says("a HALF said one half of it (cut)");
        int[] sums = {0, 1, 2, 3, 51, 9998, 9999};
        Run r = new Run(c).make("word(9, 11)", "person(9)", "person(9)").bytes(0, 0, 0).bytes(1, 0).bytes(2);
        r.make("mend(0, 9, 9)");
        for (int sum : sums) {
            r.make("mend(0, 6, " + sum + ")");
            r.due("said(0, 0, 4)", sum).due("said(1, 0, 4)", sum / 2).due("said(2, 0, 4)", 0);
        }
        c.says("what one OWES now (4; 0: nothing)");
        r.make("mend(0, 9, 10)").due("said(1, 0, 4)", 0).due("said(1, 0, 5)", 0);
    }

    private static void owesIfHeard() {
        c.says("if somebody but it hears it (one whose EARS have it)");
        Run r = new Run(c).make("word(9, 11)", "person(0)").bytes(0, 0, 0);
        r.due("said(0, 0, 1)", 2).due("said(0, 0, 4)", 0).due("said(0, 0, 5)", 0);
        r.make("person(0)").due("said(0, 0, 4)", 50).due("said(0, 0, 5)", 1);
        c.says("it, too, hears itself always");
        r.make("mend(0, 5, 0)", "mend(1, 5, 126)").due(0, "said(0, 0, 4)", "said(0, 1, 4)");
        r.make("mend(0, 5, 1)").due(0, "said(0, 0, 4)", "said(0, 1, 4)");
        r.make("mend(1, 5, 1)").due("said(0, 0, 4)", 50).due("said(0, 1, 4)", 0);
        r.make("mend(0, 5, 125)").due("said(0, 1, 4)", 0).make("mend(0, 5, 2)").due("said(0, 1, 4)", 50);
        c.says("EARS (bits 0 .. 127: whom it hears;");
        r = new Run(c).make("word(9, 11)").bytes(0, 0, 0);
        for (int i = 0; i < 7; i++) {
            r.make("person(50)", "mend(" + i + ", 5, " + (i == 3 ? 64 : 0) + ")");
        }
        for (int i = 0; i < 7; i++) {
            r.due("said(0, " + i + ", 4)", i == 6 ? 50 : 0);
        }
    }

    private static void ruin() {
        c.says("RUIN: that is more than MEANS.");
        Run r = new Run(c).make("word(9, 11)", "person(9)", "person(9)").bytes(0, 0, 0).bytes(1, 0);
        r.make("mend(0, 9, 9)", "mend(0, 6, 51)");
        int[] means = {0, 24, 25, 50, 51, 52, 9999};
        for (int m : means) {
            r.make("mend(0, 3, " + m + ")").due("said(0, 0, 5)", m < 51 ? 1 : 0).due("said(1, 0, 5)", m < 25 ? 1 : 0);
        }
        r.make("mend(0, 3, 0)", "mend(0, 6, 1)").due("said(1, 0, 5)", 0).due("said(0, 0, 5)", 1);
        r.make("mend(0, 6, 0)").due("said(0, 0, 5)", 0);
    }

    private static void safelyNumbers() {
        c.says("SAY IT SAFELY (ox: 100 times the one, and x; the SHELF holds KINS): how LONG (k -1), the k-th WORD. NOT.");
        Run r = new Run(c).make("word(3, 12)", "person(9)", "person(9)").bytes(0, 1, 1);
        r.due(BAD, "safely(0, -1, -1)", "safely(0, -100, -1)", "safely(0, 200, -1)", "safely(0, " + LEAST + ", -1)", "safely(0, " + MOST + ", -1)");
        r.due(BAD, "safely(0, 0, -2)", "safely(0, 0, " + LEAST + ")");
        r.due(NOT, "safely(0, 0, -1)", "safely(0, 100, -1)", "safely(0, 8, -1)", "safely(0, 108, 0)");
        r.due(4, "safely(0, 9, -1)", "safely(0, 99, -1)", "safely(0, 109, -1)", "safely(0, 199, -1)");
        r.due(0, "safely(0, 199, 0)", "safely(0, 199, 1)").due(NOT, "safely(0, 199, 2)", "safely(0, 199, " + MOST + ")");
    }

    private static void safelyKins() {
        c.says("KINS, one after another, 8 at most");
        for (int length : new int[] {0, 1, 7, 8, 9, 60}) {
            Run r = new Run(c).make("word(0, 12)", "person(9)").like(0, length, 1);
            int kins = Math.min(8, length);
            r.due("safely(0, 0, -1)", 2 * kins).due("safely(0, 0, " + kins + ")", NOT).due("safely(0, 0, 0)", kins == 0 ? NOT : 0);
            r.due("safely(0, 0, 7)", kins == 8 ? 0 : NOT).due("pad(0, 0)", 0);
        }
        Run r = new Run(c).make("word(0, 12)", "person(9)").like(0, 9, 1).make("put(0, 8, 5)");
        r.due("safely(0, 0, -1)", 16).due("pad(0, 0)", 0);
        r.make("put(0, 7, 5)").due("safely(0, 0, -1)", NOT).due("pad(0, 0)", NOT);
        c.says("WORDS of told KINS (a ROW of bytes: KINS, one after another");
        r = new Run(c).make("word(0, 3)", "word(0, 74)", "person(9)").bytes(0, 0, 7);
        r.due("safely(0, 0, -1)", 7).due("safely(0, 0, 0)", 0).due("safely(0, 0, 1)", 1);
        for (int end : new int[] {-128, -1, 8, 127}) {
            r.bytes(0, 7, end, 0).due("safely(0, 0, -1)", 4).due("safely(0, 0, 1)", NOT);
            r.bytes(0, end, 0).due("safely(0, 0, -1)", 0).due("safely(0, 0, 0)", NOT).due("pad(0, 0)", 0);
        }
        r.bytes(0, 7, 6).due(NOT, "safely(0, 99, -1)", "safely(0, 99, 0)", "pad(0, 99)");
        r = new Run(c).make("person(9)").bytes(0, 0).due(NOT, "safely(0, 99, -1)", "safely(0, 99, 0)", "pad(0, 99)");
    }

    private static void safelyNoNearer() {
        c.says("so that it comes no NEARER than x (0 .. 99) by one of the people");
        Run r = new Run(c).make("word(9, 11)", "person(9)", "person(9)", "mend(1, 4, 9)").bytes(0, 1).bytes(1, 1, 1);
        r.law("p*49+50");
        r.due("safely(0, 49, -1)", NOT).due("safely(0, 50, -1)", 1);
        r.due(NOT, "safely(1, 99, -1)", "safely(1, 99, 0)", "pad(1, 99)");
        r.law("p*49+49").due(NOT, "safely(1, 99, -1)").law("p*49+25").due("safely(1, 98, -1)", NOT).due("safely(1, 99, -1)", 2);
        r.due("pad(1, 98)", NOT).due("pad(1, 99)", 0);
        r.law("-1").due(1, "safely(0, 0, -1)").due(2, "safely(1, 0, -1)");
        r.law("0").due(2, "safely(1, 0, -1)").law("1").due("safely(1, 0, -1)", NOT).due("safely(1, 1, -1)", NOT).due("safely(1, 2, -1)", 2);
        r.law("v").due("safely(0, 5, -1)", 1).due("safely(0, 108, -1)", NOT).due("safely(0, 109, -1)", 1);
        r.due("safely(0, 99, -1)", 1).due("safely(0, 100, -1)", NOT).due("pad(0, 108)", NOT).due("pad(0, 109)", 0);
        r.law("(v=9)*99").due("safely(0, 99, -1)", 1).due("safely(0, 0, -1)", 1).due("safely(0, 198, -1)", NOT).due("safely(0, 199, -1)", 1);
        r.due("pad(0, 0)", 0).due("pad(0, 198)", NOT).due("pad(0, 199)", 0).due("pad(0, 100)", NOT);
        r.law("(v=5)*99").due("safely(0, 98, -1)", NOT).due("safely(0, 99, -1)", 1).due("safely(0, 100, -1)", 1).due("pad(0, 98)", NOT).due("pad(0, 100)", 0);
        // what draws away in between lets more be said
        r.law("p=1?-9;5").bytes(1, 1, 1, 1).due("safely(1, 4, -1)", NOT).due("safely(1, 5, -1)", 3);
        r.law("p=1?-3;5").due("safely(1, 6, -1)", NOT).due("safely(1, 7, -1)", 3);
    }

    private static void safelyShortest() {
        c.says("the shortest (LONG together; of like ones the first by numbers of WORDS)");
        Run r = new Run(c).make("word(0, 15)", "word(0, 14)", "word(0, 14)", "word(0, 19)", "person(9)").bytes(0, 1, 1);
        r.due("safely(0, 0, -1)", 8).due("safely(0, 0, 0)", 1).due("safely(0, 0, 1)", 1);
        r.make("mend(0, 2, 4)").due("safely(0, 0, 0)", 0).due("safely(0, 0, 1)", 0);
        r.make("mend(2, 2, 3)").due("safely(0, 0, -1)", 6).due("safely(0, 0, 0)", 2);
        // of like LONG the first WORD's number counts ahead of the second one's
        r = new Run(c).make("word(0, 12)", "word(0, 11)", "person(9)").bytes(0, 1, 1).law("p=0?(l=2)*3;(l=1)*2");
        r.due("safely(0, 9, -1)", 2).due("safely(0, 2, -1)", 2).due("safely(0, 1, -1)", 3);
        r.due("safely(0, 1, 0)", 1).due("safely(0, 1, 1)", 0).due("safely(0, 0, 0)", 1).due("safely(0, 0, 1)", 0);
        r.law("0").make("mend(0, 2, 1)").due("safely(0, 0, 0)", 0).due("safely(0, 0, 1)", 0);
        r.law("p=n?9;0").make("mend(1, 0, 1)").due("safely(0, 0, 0)", 1).due("safely(0, 0, 1)", 0);
        // what was said ahead counts: the sum that runs on, and b
        r = new Run(c).make("word(3, 11)", "word(0, 11)", "word(0, 21)", "person(9)").bytes(0, 1, 2, 1);
        int[][] first = {{6, 0, 0}, {5, 0, 1}, {3, 0, 1}, {2, 1, 1}};
        for (int[] f : first) {
            r.due("safely(0, " + f[0] + ", 0)", f[1]).due("safely(0, " + f[0] + ", 1)", 2).due("safely(0, " + f[0] + ", 2)", f[2]);
        }
        r.bytes(0, 1, 1);
        first = new int[][] {{9, 0, 0}, {8, 0, 1}, {6, 0, 1}, {5, 1, 0}, {3, 1, 0}, {2, 1, 1}};
        for (int[] f : first) {
            r.due("safely(0, " + f[0] + ", 0)", f[1]).due("safely(0, " + f[0] + ", 1)", f[2]);
        }
        // a WORD that is LONGER than all that is left is none of the shortest way, though its number is less
        r = new Run(c).make("word(1, 19)", "word(1, 11)", "person(9)").bytes(0, 1, 1).law("0").due("safely(0, 0, 0)", 1).due("safely(0, 0, 1)", 1);
        // all as LONG as may be
        r = new Run(c).make("word(0, 19)", "person(9)").like(0, 8, 1).due("safely(0, 0, -1)", 72).due("safely(0, 0, 7)", 0);
    }

    private static void padNoNearer() {
        c.says("PAD (ox): the fewest put in. NOT.");
        Run r = new Run(c).make("word(4, 11)", "word(0, 21)", "person(9)", "person(9)").bytes(0, 1, 1);
        r.due(BAD, "pad(0, -1)", "pad(0, -100)", "pad(0, 200)", "pad(0, " + LEAST + ")", "pad(0, " + MOST + ")");
        r.due(0, "pad(0, 12)", "pad(0, 99)", "pad(0, 112)").due(1, "pad(0, 11)", "pad(0, 8)", "pad(0, 108)");
        r.due(NOT, "pad(0, 7)", "pad(0, 0)", "pad(0, 107)");
        c.says("if ahead of each but the first one WORD of another KIN than both beside it may be put in");
        // nothing is put in ahead of the first one, nor behind the last
        r = new Run(c).make("word(9, 11)", "word(0, 21)", "person(9)").bytes(0, 1).law("p=0?9;-9");
        r.due("pad(0, 9)", 0).due("pad(0, 8)", NOT);
        // one alone may be put in: with two of them the last one would stand at place 3
        r.bytes(0, 1, 1).law("p=3?0;p=2?5;p=1&n=9?7;0").due("pad(0, 6)", 1).due("pad(0, 7)", 0).due("pad(0, 4)", NOT);
    }

    private static void padOfAnotherKin() {
        c.says("one WORD of another KIN than both beside it may be put in (the WORDS put in counted, too)");
        // 9 of KIN 1, 9 of KIN 2; what parts them draws away by 5
        for (int kin = 0; kin < 8; kin++) {
            Run r = new Run(c).make("word(9, 11)", "word(9, 21)", "word(0, " + kin + "1)", "person(9)").bytes(0, 1, 2);
            r.law("n=9?9;-5");
            boolean other = kin != 1 && kin != 2;
            r.due("pad(0, 13)", other ? 1 : kin == 1 || kin == 2 ? 0 : NOT);
        }
        Run r = new Run(c).make("word(9, 11)", "word(9, 21)", "word(0, 31)", "person(9)").bytes(0, 1, 2).law("n=9?9;-5");
        r.due("pad(0, 18)", 0).due("pad(0, 17)", 1).due("pad(0, 13)", 1).due("pad(0, 12)", NOT);
        // of the KIN of one beside it none may be put in, even where it would help: KIN 3 must not stand at place 2
        r = new Run(c).make("word(0, 11)", "word(0, 21)", "word(0, 31)", "person(9)").bytes(0, 1, 2, 3);
        r.law("k=3&p<3|k=1&p=2?99;0").due("pad(0, 98)", NOT).due("pad(0, 99)", 0);
        r.law("k=3&p=2?99;0").due("pad(0, 98)", 1).law("k=3&p<3?99;0").due("pad(0, 98)", 1).law("k=3&p=2|k=1&p=2?99;0").due("pad(0, 98)", 1);
        // WORD 0 may be put in, too, and the last one
        r = new Run(c).make("word(0, 71)", "word(4, 11)", "person(9)").bytes(0, 1, 1).due("pad(0, 11)", 1).due("pad(0, 8)", 1).due("pad(0, 7)", NOT);
        r = new Run(c).make("word(4, 11)", "word(0, 1)", "person(9)").bytes(0, 1, 1).due("pad(0, 11)", 1);
        padPlaces();
        r = new Run(c).make("word(9, 11)", "word(9, 21)", "word(0, 31)", "person(9)").bytes(0, 1, 2).law("n=9?9;-5");
        // what is put in may itself come too near
        r.law("n=9?p*2;9").due("pad(0, 2)", 0).due("pad(0, 1)", NOT);
        r.law("n=9?(p<2)*9;3").due("pad(0, 17)", 1).due("pad(0, 12)", 1).due("pad(0, 11)", NOT);
    }

    /** What is put in moves all behind it on by one place. */
    private static void padPlaces() {
        Run r = new Run(c).make("word(1, 11)", "word(0, 21)", "person(9)").bytes(0, 1, 1, 1);
        // the told ones must stand at 0, 2, 3: put in ahead of the second one; or at 0, 1, 3; or at 0, 2, 4
        String[] told = {"n&p=1|p>3", "n&p=2|p>3", "n&p=1|n&p=3"};
        int[] due = {1, 1, 2};
        for (int i = 0; i < told.length; i++) {
            r.law(told[i]).due("pad(0, 0)", due[i]);
        }
        // at which place stands what was put in, and what behind it
        r.law("n&p=1|n=0&p=1|p>4").due("pad(0, 0)", NOT).law("n&p=1|n=0&p=3|p>4").due("pad(0, 0)", 1).law("n&p=1|n&p=3|n=0&p=3").due("pad(0, 0)", NOT);
        r.law("n&p=2|n=0&p=1").due("pad(0, 0)", 1).law("n&p=2|n=0&p=2").due("pad(0, 0)", NOT).law("n&p=2|n&p=3|n=0&p=2").due("pad(0, 0)", NOT);
        r.like(0, 4, 1).law("n&p=1|n&p=4|p>5").due("pad(0, 0)", 2).law("n&p=1|n&p=4|p>4").due("pad(0, 0)", NOT);
        r.law("n&p=1|n&p=3|n&p=4").due("pad(0, 0)", NOT).law("n&p=1|n&p=3|n&p=6").due("pad(0, 0)", 2);
        r.law("n&p=1|n&p=3|n&p=5").due("pad(0, 0)", 3).law("n&p=3").due("pad(0, 0)", 1);
    }

    private static void padFull() {
        c.says("the fewest put in; NOT");
        Run r = new Run(c).make("word(4, 11)", "word(0, 21)", "person(9)").like(0, 8, 1);
        // eight of NEAR 4: 60 together, 4 less for each one put in
        for (int put = 0; put < 8; put++) {
            r.due("pad(0, " + (60 - 4 * put) + ")", put);
            r.due("pad(0, " + (59 - 4 * put) + ")", put == 7 ? NOT : put + 1);
        }
        // places go on to 14
        r.law("p=14&n=4?50;p=13?-40;n=4").due("pad(0, 8)", 0).due("pad(0, 7)", 6).due("pad(0, 6)", NOT);
        r.law("p=14?50;n=4?1;-7").due("pad(0, 8)", 0).due("pad(0, 7)", 1).due("pad(0, 2)", 3).due("pad(0, 1)", NOT);
    }

    private static void dangerous() {
        c.says("of all pairs of WORDS (of unlike numbers, the one right behind the other) how many are MENTIONED by one; the first (20 times the one and the other; NOT)");
        Run r = new Run(c).make("person(9)").due("dangerous(0, 0)", 0).due("dangerous(0, 1)", NOT);
        r.make("mend(0, 8, 1)", "word(9, 11)").due("dangerous(0, 0)", 0).due("dangerous(0, 1)", NOT);
        r.make("word(9, 11)").due("dangerous(0, 0)", 2).due("dangerous(0, 1)", 1);
        r.make("mend(0, 8, 27)").due("dangerous(0, 0)", 2).make("mend(0, 8, 28)").due("dangerous(0, 0)", 0).due("dangerous(0, 1)", NOT);
        r = new Run(c).make("person(9)", "mend(0, 8, 18)");
        for (int i = 0; i < 14; i++) {
            r.make("word(0, 11)");
        }
        r.make("word(9, 21)", "word(8, 21)").due("dangerous(0, 0)", 2).due("dangerous(0, 1)", 20 * 14 + 15);
        Run first = new Run(c).make("person(9)", "word(1, 11)", "word(2, 11)", "word(3, 21)", "mend(0, 8, 45)").law("n*9");
        first.due("dangerous(0, 0)", 2).due("dangerous(0, 1)", 20 + 2).make("mend(0, 8, 36)").due("dangerous(0, 0)", 4).due("dangerous(0, 1)", 2);
        r.law("p=0?n*2;n=9").due("dangerous(0, 0)", 15).due("dangerous(0, 1)", 20 * 14);
        r.law("p=1?n*3;0").due("dangerous(0, 0)", 30).due("dangerous(0, 1)", 14);
        r.law("p=1&n=8?18;p=1&n=9?9;n").due("dangerous(0, 1)", 15);
        r.law("n=8&p=0?9;n=9&p=1?9;0").due("dangerous(0, 0)", 1).due("dangerous(0, 1)", 20 * 15 + 14);
        r.law("99").due("dangerous(0, 0)", 240).due("dangerous(0, 1)", 1);
    }

    private static void dangerousNumbers() {
        c.says("DANGEROUS by one: how many (what 0), the first (1; NOT). BAD.");
        Run r = new Run(c).due(BAD, "dangerous(0, 0)").make("person(9)", "person(9)", "word(9, 11)", "word(9, 11)");
        r.due(BAD, "dangerous(-1, 0)", "dangerous(2, 0)", "dangerous(" + LEAST + ", 0)", "dangerous(" + MOST + ", 0)");
        r.due(BAD, "dangerous(0, -1)", "dangerous(0, 2)", "dangerous(0, " + LEAST + ")", "dangerous(0, " + MOST + ")");
        r.due("dangerous(1, 0)", 2).due("dangerous(1, 1)", 1);
    }

    private static void wordForIt() {
        c.says("for a WORD, the one of like KIN that comes least NEAR (of like ones the least; it, too)");
        Run r = new Run(c).make("person(9)", "word(5, 11)").due("wordFor(0, 0)", 0);
        r.make("word(5, 11)", "word(4, 11)", "word(4, 11)", "word(0, 1)", "word(0, 21)");
        r.due(2, "wordFor(0, 0)", "wordFor(1, 0)", "wordFor(2, 0)", "wordFor(3, 0)").due("wordFor(4, 0)", 4).due("wordFor(5, 0)", 5);
        r.make("mend(1, 0, 3)").due(1, "wordFor(0, 0)", "wordFor(1, 0)", "wordFor(3, 0)");
        r.make("mend(4, 1, 1)").due(4, "wordFor(0, 0)", "wordFor(4, 0)");
        c.says("WORD FOR IT by one. BAD.");
        Run two = new Run(c).make("person(9)", "person(9)", "mend(1, 4, 9)", "word(1, 11)", "word(2, 11)").law("v=9?9-n;n");
        two.due("wordFor(0, 0)", 0).due("wordFor(0, 1)", 1).due("wordFor(1, 0)", 0).due("wordFor(1, 1)", 1);
        r.due(BAD, "wordFor(-1, 0)", "wordFor(6, 0)", "wordFor(" + LEAST + ", 0)", "wordFor(" + MOST + ", 0)");
        r.due(BAD, "wordFor(0, -1)", "wordFor(0, 1)", "wordFor(0, " + LEAST + ")", "wordFor(0, " + MOST + ")");
        r = new Run(c).make("person(9)");
        for (int i = 0; i < 16; i++) {
            r.make("word(" + (i == 15 ? 0 : 9) + ", 11)");
        }
        r.due(15, "wordFor(15, 0)", "wordFor(0, 0)").due("wordFor(16, 0)", BAD);
    }

    private static void bare() {
        c.says("which KINS (bits) cannot be spoken of at all by x (each WORD of it, alone, comes NEARER than x; none of it: they can)");
        Run r = new Run(c).make("person(9)").due(0, "bare(0)", "bare(99)");
        r.make("word(3, 1)", "word(9, 1)", "word(4, 71)");
        r.due("bare(0)", 129).due("bare(2)", 129).due("bare(3)", 128).due("bare(4)", 0).due("bare(99)", 0);
        r.make("mend(2, 0, 0)").due("bare(0)", 1);
        r.law("99").due("bare(98)", 129).due("bare(99)", 0);
        r.law("-9").due("bare(0)", 0).law("0").due("bare(0)", 0).law("1").due("bare(0)", 129).due("bare(1)", 0);
        r = new Run(c).make("person(9)");
        for (int kin = 0; kin < 8; kin++) {
            r.make("word(1, " + kin + "1)").due("bare(0)", (2 << kin) - 1).due("bare(1)", 0);
        }
    }

    private static void bareNumbers() {
        c.says("BARE (ox): bits of KINS. BAD.");
        Run r = new Run(c).due(BAD, "bare(0)").make("person(9)", "person(9)", "mend(1, 4, 9)", "word(0, 1)").law("v");
        r.due(BAD, "bare(-1)", "bare(-100)", "bare(200)", "bare(" + LEAST + ")", "bare(" + MOST + ")");
        r.law("(v=9)*99").due("bare(0)", 0).due("bare(99)", 0).due("bare(100)", 1).due("bare(198)", 1).due("bare(199)", 0).law("v");
        r.due("bare(4)", 1).due("bare(5)", 0).due("bare(99)", 0).due("bare(100)", 1).due("bare(108)", 1).due("bare(109)", 0).due("bare(199)", 0);
    }
}
