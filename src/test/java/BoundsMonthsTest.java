/** Each sentence on months and draws that names a boundary: promises 23 to 26. */
public final class BoundsMonthsTest {
    private static final int BAD = Run.BAD, NOT = Run.NOT, LEAST = Run.LEAST, MOST = Run.MOST;
    private static final Check c = new Check("BoundsMonthsTest");

    public static void main(String[] args) {
        shelvesOfBytesAlone();
        numbers();
        twelveAtMost();
        asLongAsItIs();
        allEnds();
        judged();
        never();
        leastBound();
        howNear();
        tooNear();
        tooNearLacks();
        drawnNumbers();
        drawnNothing();
        drawnWraps();
        drawnDays();
        c.end();
    }

    private static void shelvesOfBytesAlone() {
        c.says("MONTHS: a ROW of bytes on a SHELF");
        String[] calls = {"judge(S, 0)", "months(S, 0, 0)", "months(S, 0, 1)", "months(S, 0, 2)", "mayBe(S, 0)"};
        int[] ofNone = {NOT, 1, 1, 0, 9};
        for (int i = 0; i < calls.length; i++) {
            Run r = new Run(c).make("person(9)", "word(9, 11)", "body(0)");
            for (int shelf : new int[] {-1, 6, LEAST, MOST}) {
                r.due(calls[i].replace("S", "" + shelf), BAD);
            }
            for (int shelf = 0; shelf < 6; shelf++) {
                r.due(calls[i].replace("S", "" + shelf), Check.NOTHING_THERE);
            }
            for (int sort = 1; sort < 5; sort++) {
                r.make("row(0, " + sort + ", 2)").due(calls[i].replace("S", "0"), Check.OTHER_KIND);
            }
            r.make("keep(0, 0)").due(calls[i].replace("S", "0"), Check.OTHER_KIND);
            r.make("row(0, 0, 0)").due(calls[i].replace("S", "0"), ofNone[i]);
        }
    }

    private static void numbers() {
        c.says("JUDGED (MONTHS on a SHELF) by one. BAD, -11, -12; NOT.");
        Run r = new Run(c).bytes(0, 0, 0).due(BAD, "judge(0, 0)", "months(0, 0, 0)", "mayBe(0, 0)");
        r.make("person(9)", "person(9)").due(BAD, "mayBe(0, 0)").make("word(9, 11)", "word(0, 21)");
        r.due(BAD, "judge(0, -1)", "judge(0, 2)", "judge(0, " + LEAST + ")", "judge(0, " + MOST + ")").due("judge(0, 1)", 0);
        c.says("NEVER (what 0), LEAST BOUND (1; NOT), TOO NEAR (2) by one. BAD, -11, -12.");
        r.due(BAD, "months(0, -1, 0)", "months(0, 2, 0)", "months(0, " + LEAST + ", 0)", "months(0, " + MOST + ", 0)");
        r.due(BAD, "months(0, 0, -1)", "months(0, 0, 3)", "months(0, 0, " + LEAST + ")", "months(0, 0, " + MOST + ")");
        c.says("HOW NEAR MAY IT BE (ow: 100 times the one, and the WORD). BAD, -11, -12; NOT.");
        r.due(BAD, "mayBe(0, -1)", "mayBe(0, -100)", "mayBe(0, 2)", "mayBe(0, 99)", "mayBe(0, 102)", "mayBe(0, 200)");
        r.due(BAD, "mayBe(0, " + LEAST + ")", "mayBe(0, " + MOST + ")", "mayBe(1, 2)", "mayBe(1, 200)");
        r.due(6, "mayBe(0, 0)", "mayBe(0, 100)").due(NOT, "mayBe(0, 1)", "mayBe(0, 101)");
        r.due("of(0, 0)", 9).due("count(3)", 0);
    }

    private static void twelveAtMost() {
        c.says("parted by -1 (12 at most, each as long as it is");
        Run r = new Run(c).make("person(9)", "word(9, 11)", "word(1, 21)", "mend(0, 8, 9)");
        for (int ahead = 0; ahead < 15; ahead++) {
            boolean counts = ahead < 12;
            r.like(0, ahead + 1, -1).make("put(0, " + ahead + ", 0)");
            r.due("judge(0, 0)", counts ? ahead : NOT).due("months(0, 0, 0)", counts ? 2 : 3);
            r.due("months(0, 0, 1)", counts ? 10 : 1).due("mayBe(0, 0)", counts ? 8 : 9);
        }
        r = new Run(c).make("person(9)", "word(9, 11)", "mend(0, 8, 9)").like(0, 60, -1).due("judge(0, 0)", NOT).due("months(0, 0, 1)", 1);
        r.due("months(0, 0, 0)", 1).due("months(0, 0, 2)", 1);
    }

    private static void asLongAsItIs() {
        c.says("each as long as it is");
        Run r = new Run(c).make("person(9)", "word(0, 11)", "word(9, 21)", "mend(0, 8, 9)").like(0, 60, 0);
        for (int at : new int[] {9, 10, 11, 15, 16, 17, 59}) {
            r.make("put(0, " + at + ", 1)").due("judge(0, 0)", 0).due("months(0, 0, 0)", 0).due("months(0, 0, 1)", 10);
            r.due("mayBe(0, 1)", 8).make("put(0, " + at + ", 0)").due("judge(0, 0)", NOT);
        }
        for (int at : new int[] {15, 16, 17, 59}) {
            r.law("p=" + at + "?9;0").due("judge(0, 0)", 0).due("months(0, 0, 1)", 10);
            r.law("p>" + at + "?2;0").due("months(0, 0, 1)", 2 * (59 - at) + 1);
        }
        r.law("p>59?9;0").due("judge(0, 0)", NOT);
    }

    private static void allEnds() {
        c.says("all ends with what is neither a WORD nor -1");
        for (int end : new int[] {-128, -2, 2, 16, 127}) {
            Run r = new Run(c).make("person(9)", "word(9, 11)", "word(0, 21)", "mend(0, 8, 9)");
            r.bytes(0, 1, end, 0).due("judge(0, 0)", NOT).due("months(0, 0, 0)", 1).due("months(0, 0, 1)", 1).due("mayBe(0, 0)", 9);
            r.bytes(0, 1, -1, end, -1, 0).due("judge(0, 0)", NOT).due("months(0, 0, 0)", 1);
            r.bytes(0, 0, end).due("judge(0, 0)", 0).due("months(0, 0, 0)", 2);
            r.bytes(0, end, -1, 0).due("judge(0, 0)", NOT).due("months(0, 0, 0)", 3).due("months(0, 0, 1)", 1);
            r.bytes(0, 1, -1, 0, end, 1).due("judge(0, 0)", 1).due("months(0, 0, 0)", 0);
        }
        Run r = new Run(c).make("person(9)", "word(0, 11)").bytes(0, 0, 1, 0).make("mend(0, 8, 9)").due("judge(0, 0)", NOT);
        r.make("word(9, 21)").due("judge(0, 0)", 0);
    }

    private static void judged() {
        c.says("JUDGED: the first that would be; NOT.");
        Run r = new Run(c).make("person(9)", "word(9, 11)", "word(4, 21)").bytes(0, 0, 1, -1, -1, 0, 0, -1, 0, 0, 1);
        int[] bounds = {1, 13, 14, 27, 28, 31, 32, 99};
        int[] due = {0, 0, 2, 2, 3, 3, NOT, NOT};
        for (int i = 0; i < bounds.length; i++) {
            r.make("mend(0, 8, " + bounds[i] + ")").due("judge(0, 0)", due[i]);
        }
        r.bytes(0).make("mend(0, 8, 1)").due("judge(0, 0)", NOT).bytes(0, -1, -1).due("judge(0, 0)", NOT);
    }

    private static void never() {
        c.says("NEVER: which WORDS (bits) occur in none of them.");
        Run r = new Run(c).make("person(9)").bytes(0, 0, 15, -1, 7).due("months(0, 0, 0)", 0);
        for (int words = 1; words <= 16; words++) {
            r.make("word(1, 11)");
            // the SENTENCES end ahead of 15 as long as there is none
            int said = words < 16 ? 1 : 1 | 1 << 15 | 1 << 7;
            r.due("months(0, 0, 0)", ((1 << words) - 1) & ~said);
        }
        r.bytes(0).due("months(0, 0, 0)", 65535).bytes(0, -1).due("months(0, 0, 0)", 65535);
        r.make("row(0, 0, 16)");
        for (int i = 0; i < 16; i++) {
            r.make("put(0, " + i + ", " + (15 - i) + ")").due("months(0, 0, 0)", i == 15 ? 0 : ((1 << (15 - i)) - 1) & ~1);
        }
    }

    private static void leastBound() {
        c.says("LEAST BOUND: the least BOUND (1 .. 99) by which none of them is MENTIONED; NOT.");
        Run r = new Run(c).make("person(9)", "person(9)", "mend(1, 4, 9)", "word(0, 11)").bytes(0).due("months(0, 0, 1)", 1);
        int[] gives = {-99, -1, 0, 1, 2, 97, 98, 99};
        int[] due = {1, 1, 1, 2, 3, 98, 99, NOT};
        for (int i = 0; i < gives.length; i++) {
            r.bytes(0, 0, -1).law("" + gives[i]).due("months(0, 0, 1)", due[i]);
            r.bytes(0, -1, 0).due("months(0, 0, 1)", due[i]).make("mend(0, 8, " + (1 + i * 14) + ")").due("months(0, 0, 1)", due[i]);
        }
        r.law("99").bytes(0, 0, 0).due("months(0, 0, 1)", NOT).law("49").due("months(0, 0, 1)", 99).law("50").due("months(0, 0, 1)", NOT);
        r.law("v").due("months(0, 0, 1)", 11).due("months(0, 1, 1)", 19);
    }

    private static void howNear() {
        c.says("HOW NEAR MAY IT BE: the greatest NEAR (0 .. 9) of a told WORD by which none is MENTIONED; NOT.");
        Run r = new Run(c).make("person(9)", "word(5, 11)", "word(5, 21)").bytes(0, 0, -1, 0);
        int[] bounds = {1, 2, 5, 9, 10, 99};
        int[] due = {0, 1, 4, 8, 9, 9};
        for (int i = 0; i < bounds.length; i++) {
            r.make("mend(0, 8, " + bounds[i] + ")").due("mayBe(0, 0)", due[i]).due("mayBe(0, 1)", bounds[i] <= 5 ? NOT : 9);
        }
        r.make("mend(0, 8, 1)").law("n+1").due("mayBe(0, 0)", NOT).law("n").due("mayBe(0, 0)", 0);
        // not only the least NEARS may do
        r.law("n=9?0;1").due("mayBe(0, 0)", 9).law("n=4?0;1").due("mayBe(0, 0)", 4).law("n=0?0;1").due("mayBe(0, 0)", 0);
        r.law("n&n<9").due("mayBe(0, 0)", 9).law("0").due("mayBe(0, 0)", 9);
        r.due(5, "of(0, 0)", "of(1, 0)").due("count(3)", 7);
        // by the one that is told ahead of the WORD
        r.make("person(9)", "mend(1, 4, 9)", "mend(0, 8, 9)").law("v=9?n*3;n").due("mayBe(0, 0)", 8).due("mayBe(0, 100)", 2).due("mayBe(0, 1)", 9).due("mayBe(0, 101)", NOT);
        r.make("mend(0, 8, 1)");
        // its NEAR counts as b of the next one, too
        r.bytes(0, 0, 0).law("b>3").due("mayBe(0, 0)", 3);
    }

    private static void tooNear() {
        c.says("TOO NEAR: which WORDS (bits), put right behind the last one of the first SENTENCE (it may be empty), would have been MENTIONED");
        Run r = new Run(c).make("person(9)", "word(9, 11)", "word(4, 21)", "word(3, 21)");
        int[] bounds = {1, 3, 4, 5, 8, 9, 10, 99};
        int[] alone = {7, 7, 3, 1, 1, 1, 0, 0};
        for (int i = 0; i < bounds.length; i++) {
            r.make("mend(0, 8, " + bounds[i] + ")").bytes(0, -1, 0).due("months(0, 0, 2)", alone[i]);
            // behind 4: 9 comes to 13, 4 to 4 + 4 + 4, 3 to 4 + 3 + 4
            r.bytes(0, 1, -1, 0).due("months(0, 0, 2)", i < 7 ? 7 : 0);
        }
        r.make("mend(0, 8, 12)").due("months(0, 0, 2)", 3).make("mend(0, 8, 13)").due("months(0, 0, 2)", 1);
        r.make("mend(0, 8, 14)").due("months(0, 0, 2)", 0).make("mend(0, 8, 4)").due("months(0, 0, 2)", 7);
        // the end of the first SENTENCE is where it ends, by -1, by the ROW or by what ends all
        r.make("mend(0, 8, 12)").bytes(0, 1).due("months(0, 0, 2)", 3).bytes(0, 1, 5).due("months(0, 0, 2)", 3);
        r.bytes(0, 1, -2, 0).due("months(0, 0, 2)", 3);
        r.make("mend(0, 8, 9)").law("p=2?n;-9").like(0, 2, 1).due("months(0, 0, 2)", 1).like(0, 3, 1).due("months(0, 0, 2)", 0);
        r.law("p=60?n;0").like(0, 60, 1).due("months(0, 0, 2)", 1).make("put(0, 59, -1)").due("months(0, 0, 2)", 0);
        r.law("p=59?n;0").due("months(0, 0, 2)", 1);
    }

    private static void tooNearLacks() {
        c.says("(0: the ROW has no byte, or its first one ends all)");
        Run r = new Run(c).make("person(9)", "word(9, 11)", "mend(0, 8, 9)").bytes(0).due("months(0, 0, 2)", 0);
        for (int end : new int[] {-128, -2, 1, 127}) {
            r.bytes(0, end).due("months(0, 0, 2)", 0).bytes(0, end, 0).due("months(0, 0, 2)", 0);
        }
        r.bytes(0, -1).due("months(0, 0, 2)", 1).bytes(0, 0).due("months(0, 0, 2)", 1);
        r = new Run(c).make("person(9)").bytes(0, -1).due("months(0, 0, 2)", 0);
        for (int i = 0; i < 16; i++) {
            r.make("word(9, 11)");
        }
        r.make("mend(0, 8, 9)").due("months(0, 0, 2)", 65535).bytes(0, 16).due("months(0, 0, 2)", 0).bytes(0, 15).due("months(0, 0, 2)", 65535);
    }

    private static void drawnNumbers() {
        c.says("DRAWN: MENTIONED (what 0), HALF (1), the first day (2; NOT). BAD.");
        Run r = new Run(c).make("person(9)", "word(9, 11)");
        r.due(BAD, "drawn(1, 1, -1)", "drawn(1, 1, 3)", "drawn(1, 1, " + LEAST + ")", "drawn(1, 1, " + MOST + ")");
        c.says("n days (1 .. 99) by a SEED");
        r.due(BAD, "drawn(1, 0, 0)", "drawn(1, 100, 0)", "drawn(1, -1, 0)", "drawn(1, " + LEAST + ", 0)", "drawn(1, " + MOST + ", 0)");
        r.due("drawn(1, 1, 0)", 1).due("drawn(1, 2, 0)", 2).due("drawn(1, 98, 0)", 98).due("drawn(1, 99, 0)", 99);
        r.due(0, "drawn(1, 1, 1)", "drawn(1, 99, 2)", "drawn(1, 1, 2)");
        r.make("mend(0, 8, 27)").due("drawn(1, 99, 0)", 99).make("mend(0, 8, 28)").due("drawn(1, 99, 0)", 0).due("drawn(1, 99, 1)", 99).due("drawn(1, 99, 2)", NOT);
        r.make("mend(0, 9, 27)").due("drawn(1, 99, 1)", 99).make("mend(0, 9, 28)").due("drawn(1, 99, 1)", 0);
    }

    private static void drawnNothing() {
        c.says("(no PEOPLE or WORDS: nothing)");
        Run r = new Run(c).due(0, "drawn(1, 99, 0)", "drawn(1, 99, 1)").due("drawn(1, 99, 2)", NOT);
        r.make("word(9, 11)").due(0, "drawn(1, 99, 0)", "drawn(1, 99, 1)").due("drawn(1, 99, 2)", NOT);
        r.due(BAD, "drawn(1, 0, 0)", "drawn(1, 100, 0)", "drawn(1, 1, 3)").make("person(9)").due("drawn(1, 99, 0)", 99);
        r = new Run(c).make("person(9)").due(0, "drawn(1, 99, 0)", "drawn(1, 99, 1)").due("drawn(1, 99, 2)", NOT);
        r.due(BAD, "drawn(1, 0, 0)", "drawn(1, 100, 0)", "drawn(1, 1, -1)");
    }

    private static void drawnWraps() {
        c.says("z = z * 1103515245 + 12345 (an int; SEED at first) ahead of each");
        int[] seeds = {0, 1, -1, MOST, LEAST, 12345, -12345};
        for (int seed : seeds) {
            for (int many : new int[] {1, 3, 7}) {
                drawnAs(seed, many, 5);
            }
            drawnAs(seed, 2, 16);
        }
    }

    /** Twelve days of draws; on each the told speaker and WORDS, and none else, are MENTIONED by the law. */
    private static void drawnAs(int seed, int people, int words) {
        long z = seed;
        for (int day = 0; day < 12; day++) {
            z = (int) (z * 1103515245L + 12345L);
            long bits = z & 0xFFFFFFFFL;
            int who = (int) ((bits >> 4) % people);
            int first = (int) ((bits >> 10) % words);
            int second = (int) ((bits >> 18) % words);
            Run r = new Run(c);
            for (int i = 0; i < people; i++) {
                r.make("person(9)", "mend(" + i + ", 4, " + i + ")");
            }
            for (int i = 0; i < words; i++) {
                r.make("word(0, " + i % 8 + (1 + i / 8) + ")");
            }
            // a WORD's number is k + 8 * l - 8 then, and v is the number of who says it
            r.law("p=0?(v=" + who + "&k+8*l-8=" + first + ")*9;(k+8*l-8=" + second + ")*9").make("mend(0, 8, 18)");
            long before = day == 0 ? 0 : r.ask("drawn(" + seed + ", " + day + ", 0)");
            r.due("drawn(" + seed + ", " + (day + 1) + ", 0)", before + 1);
            r.make("mend(0, 8, 19)").due("drawn(" + seed + ", " + (day + 1) + ", 0)", 0);
        }
    }

    private static void drawnDays() {
        c.says("on how many days it was MENTIONED, HALF said; the first day it was MENTIONED (NOT)");
        Run r = new Run(c).make("person(9)", "word(9, 11)", "word(0, 21)", "mend(0, 8, 27)", "mend(0, 9, 9)");
        int z = 77;
        int mentioned = 0;
        int half = 0;
        int first = NOT;
        for (int day = 0; day < 99; day++) {
            z = z * 1103515245 + 12345;
            int both = ((z >>> 10) % 2 == 0 ? 1 : 0) + ((z >>> 18) % 2 == 0 ? 1 : 0);
            first = both == 2 && first == NOT ? day : first;
            mentioned += both == 2 ? 1 : 0;
            half += both == 1 ? 1 : 0;
            String days = "drawn(77, " + (day + 1) + ", ";
            r.due(days + "0)", mentioned).due(days + "1)", half).due(days + "2)", first);
        }
        // nobody need hear it
        r.make("mend(0, 5, 0)").due("drawn(77, 99, 0)", mentioned);
    }
}
