/** Each sentence on waiting, talk and questions that names a boundary: promises 15 to 22. */
public final class BoundsWaitingTest {
    private static final int BAD = Run.BAD, NOT = Run.NOT, VOID = Run.VOID, LEAST = Run.LEAST, MOST = Run.MOST;
    private static final Check c = new Check("BoundsWaitingTest");

    public static void main(String[] args) {
        sumDays();
        sumAtMost();
        canNow();
        canOnAndOn();
        firstToGo();
        firstToGoForEver();
        begin();
        treatyNumbers();
        treatyPennies();
        treatyWithoutMeans();
        treatyWhether();
        treatyRicher();
        talkNumbers();
        talkLengths();
        talkThatIsNotSo();
        talkHeard();
        talkByNerve();
        talkSumOfThatDay();
        halves();
        askNumbers();
        askBound();
        askSafest();
        corner();
        c.end();
    }

    private static void sumDays() {
        c.says("n days (0 .. 99)");
        Run r = new Run(c).due(BAD, "sum(-1)", "sum(100)", "sum(" + LEAST + ")", "sum(" + MOST + ")");
        r.due("sum(0)", 50).due("sum(1)", 55).due("sum(98)", 540).due("sum(99)", 545);
        r.make("mend(0, 7, 0)").due(50, "sum(0)", "sum(99)").due(BAD, "sum(100)");
    }

    private static void sumAtMost() {
        c.says("the SUM then (SUM and n GROWS, 9999 at most)");
        Run r = new Run(c).make("mend(0, 6, 9997)", "mend(0, 7, 1)");
        r.due("sum(0)", 9997).due("sum(1)", 9998).due("sum(2)", 9999).due(9999, "sum(3)", "sum(99)");
        r.make("mend(0, 6, 9999)").due(9999, "sum(0)", "sum(1)", "sum(99)");
        r.make("mend(0, 6, 198)", "mend(0, 7, 99)").due("sum(99)", 198 + 9801);
        r.make("mend(0, 6, 199)").due("sum(99)", 9999).due("sum(98)", 9901);
        r.make("mend(0, 6, 0)").due("sum(0)", 0).due("sum(99)", 9801);
    }

    private static void canNow() {
        c.says("the last day (0 on) on which one could still pay it, if SUM grew on and on (NOT: not now;");
        Run r = new Run(c).make("person(0)");
        int[] means = {0, 49, 50, 54, 55, 59, 60};
        int[] due = {NOT, NOT, 0, 0, 1, 1, 2};
        for (int i = 0; i < means.length; i++) {
            r.make("mend(0, 3, " + means[i] + ")").due("can(0)", due[i]);
        }
        r.make("mend(0, 6, 0)", "mend(0, 3, 0)").due("can(0)", 0).make("mend(0, 3, 4)").due("can(0)", 0);
        c.says("CAN. BAD; NOT.");
        r.due(BAD, "can(-1)", "can(1)", "can(7)", "can(" + LEAST + ")", "can(" + MOST + ")");
    }

    private static void canOnAndOn() {
        c.says("999: that or later, for ever)");
        Run r = new Run(c).make("person(0)", "mend(0, 6, 10)", "mend(0, 7, 2)");
        int[] means = {10 + 2 * 998 - 1, 10 + 2 * 998, 10 + 2 * 998 + 1, 10 + 2 * 999 - 1, 10 + 2 * 999, 10 + 2 * 1000, 9999};
        int[] due = {997, 998, 998, 998, 999, 999, 999};
        for (int i = 0; i < means.length; i++) {
            r.make("mend(0, 3, " + means[i] + ")").due("can(0)", due[i]);
        }
        r.make("mend(0, 7, 0)", "mend(0, 3, 10)").due("can(0)", 999).make("mend(0, 3, 9)").due("can(0)", NOT);
        // it grows beyond the 9999 at which sum() stops
        r.make("mend(0, 3, 9999)", "mend(0, 6, 9000)", "mend(0, 7, 99)").due("can(0)", 10);
        r.make("mend(0, 6, 9999)").due("can(0)", 0).make("mend(0, 7, 0)").due("can(0)", 999);
    }

    private static void firstToGo() {
        c.says("who, if each says it on the last day on which it can (of like days the least number; NOT: none can or all can for ever)");
        Run r = new Run(c).due(NOT, "firstToGo(0)", "firstToGo(1)");
        r.make("person(49)").due(NOT, "firstToGo(0)", "firstToGo(1)");
        r.make("person(49)").due(NOT, "firstToGo(0)", "firstToGo(1)");
        r.make("person(60)").due("firstToGo(0)", 2).due("firstToGo(1)", 2);
        r.make("person(64)").due("firstToGo(0)", 2).due("firstToGo(1)", 2);
        r.make("person(59)").due("firstToGo(0)", 4).due("firstToGo(1)", 1);
        r.make("person(50)", "person(54)").due("firstToGo(0)", 5).due("firstToGo(1)", 0);
        r.make("mend(6, 3, 50)", "mend(5, 3, 49)").due("firstToGo(0)", 6).due("firstToGo(1)", 0);
        r.make("mend(0, 3, 54)").due("firstToGo(0)", 0).due("firstToGo(1)", 0);
        c.says("FIRST TO GO: who (what 0), when (1). BAD; NOT.");
        r.due(BAD, "firstToGo(-1)", "firstToGo(2)", "firstToGo(" + LEAST + ")", "firstToGo(" + MOST + ")");
        new Run(c).due(BAD, "firstToGo(-1)", "firstToGo(2)");
    }

    private static void firstToGoForEver() {
        c.says("NOT: none can or all can for ever): who; when.");
        Run r = new Run(c).make("person(50)", "person(9999)", "mend(0, 7, 0)").due(NOT, "firstToGo(0)", "firstToGo(1)");
        r.make("mend(0, 3, 49)").due(NOT, "firstToGo(0)", "firstToGo(1)");
        r = new Run(c).make("person(1048)", "mend(0, 7, 1)").due("firstToGo(0)", 0).due("firstToGo(1)", 998);
        r.make("person(9999)").due("firstToGo(0)", 0).due("firstToGo(1)", 998);
        r.make("person(1047)").due("firstToGo(0)", 2).due("firstToGo(1)", 997);
    }

    private static void begin() {
        c.says("what one saves, if it says it on day a instead of b (a no more than b)");
        Run r = new Run(c).due("begin(0)", 0).due("begin(1)", 5).due("begin(99)", 495).due("begin(9899)", 5).due("begin(9999)", 0);
        r.due("begin(505)", 0).due("begin(506)", 5).due(VOID, "begin(504)", "begin(100)", "begin(9998)", "begin(9900)");
        c.says("BEGIN (ab: 100 a and b). VOID: BAD.");
        r.due(VOID, "begin(-1)", "begin(-100)", "begin(10000)", "begin(10099)", "begin(" + LEAST + ")", "begin(" + MOST + ")");
        c.says("9999 at most");
        r.make("mend(0, 6, 9990)").due("begin(1)", 5).due("begin(2)", 9).due("begin(99)", 9).due("begin(102)", 4).due("begin(203)", 0);
        r.make("mend(0, 7, 0)").due("begin(99)", 0).due("begin(9900)", VOID);
    }

    private static void treatyNumbers() {
        c.says("TREATY: the share of one (what 0), whether (1; one 0), RICHER (2; one 0). BAD (no PEOPLE, too).");
        Run r = new Run(c).due(BAD, "treaty(0, 0)", "treaty(0, 1)", "treaty(0, 2)", "treaty(-1, 0)");
        r.make("person(50)", "person(50)").due(25, "treaty(0, 0)", "treaty(1, 0)");
        r.due(BAD, "treaty(-1, 0)", "treaty(2, 0)", "treaty(" + LEAST + ", 0)", "treaty(" + MOST + ", 0)");
        r.due(BAD, "treaty(1, 1)", "treaty(1, 2)", "treaty(-1, 1)", "treaty(2, 2)");
        r.due(BAD, "treaty(0, -1)", "treaty(0, 3)", "treaty(0, " + LEAST + ")", "treaty(0, " + MOST + ")", "treaty(1, 3)");
    }

    private static void shares(Run r, int... due) {
        for (int i = 0; i < due.length; i++) {
            r.due("treaty(" + i + ", 0)", due[i]);
        }
    }

    private static void treatyPennies() {
        c.says("what is left over to number 0 on, a penny each, round and round");
        Run r = new Run(c).make("person(10)", "person(10)", "person(10)", "mend(0, 6, 0)");
        shares(r, 0, 0, 0);
        r.make("mend(0, 6, 1)");
        shares(r, 1, 0, 0);
        r.make("mend(0, 6, 2)");
        shares(r, 1, 1, 0);
        r.make("mend(0, 6, 3)");
        shares(r, 1, 1, 1);
        r.make("mend(0, 6, 9999)");
        shares(r, 3333, 3333, 3333);
        r.make("mend(0, 6, 9998)");
        shares(r, 3333, 3333, 3332);
        c.says("each SUM times its MEANS by all MEANS together (cut)");
        r = new Run(c).make("person(1)", "person(2)", "person(0)", "mend(0, 6, 100)");
        shares(r, 34, 66, 0);
        r.make("mend(0, 3, 0)", "mend(2, 3, 9999)");
        shares(r, 1, 0, 99);
        r = new Run(c).make("mend(0, 6, 9999)");
        for (int i = 0; i < 7; i++) {
            r.make("person(9999)");
        }
        shares(r, 1429, 1429, 1429, 1428, 1428, 1428, 1428);
        r.make("mend(6, 3, 0)");
        shares(r, 1667, 1667, 1667, 1666, 1666, 1666, 0);
    }

    private static void treatyWithoutMeans() {
        c.says("(all MEANS 0: SUM is left over whole)");
        Run r = new Run(c).make("person(0)");
        shares(r, 50);
        r.due("treaty(0, 1)", 0).make("person(0)", "person(0)");
        shares(r, 17, 17, 16);
        r.due("treaty(0, 1)", 0).make("mend(0, 6, 0)").due("treaty(0, 1)", 1);
        shares(r, 0, 0, 0);
        r.make("mend(0, 6, 1)").due("treaty(0, 1)", 0);
        shares(r, 1, 0, 0);
        r.make("mend(2, 3, 1)").due("treaty(0, 1)", 1);
        shares(r, 0, 0, 1);
        r.make("mend(2, 3, 0)", "mend(0, 6, 9999)");
        shares(r, 3333, 3333, 3333);
    }

    private static void treatyWhether() {
        c.says("whether (1, 0) nobody pays more than it can");
        Run r = new Run(c).make("person(50)").due("treaty(0, 1)", 1).make("mend(0, 3, 49)").due("treaty(0, 1)", 0);
        r.make("mend(0, 3, 51)").due("treaty(0, 1)", 1);
        r = new Run(c).make("person(25)", "person(25)").due("treaty(0, 1)", 1).make("mend(0, 6, 51)").due("treaty(0, 1)", 0);
        // the penny makes it too much for number 0, who has nothing
        r = new Run(c).make("person(0)", "person(30)", "person(30)").due("treaty(0, 1)", 1);
        r.make("mend(0, 6, 51)").due("treaty(0, 1)", 0).due("treaty(0, 0)", 1);
    }

    private static void treatyRicher() {
        c.says("RICHER: how many pay more than SUM by how many PEOPLE (cut)");
        Run r = new Run(c).make("person(10)").due("treaty(0, 2)", 0).make("person(10)").due("treaty(0, 2)", 0);
        r.make("mend(0, 6, 51)").due("treaty(0, 2)", 1).make("person(10)").due("treaty(0, 2)", 0);
        r.make("mend(0, 6, 53)").due("treaty(0, 2)", 2).make("mend(0, 6, 52)").due("treaty(0, 2)", 1);
        r.make("mend(0, 6, 0)").due("treaty(0, 2)", 0).make("mend(0, 6, 1)").due("treaty(0, 2)", 1);
        r.make("mend(0, 6, 99)", "mend(1, 3, 0)").due("treaty(0, 2)", 2).make("mend(0, 3, 0)").due("treaty(0, 2)", 1);
    }

    /** SHELF 0: MENTIONED, 1: HALF said, 2: neither; three people with MEANS 100; SUM 51. */
    private static Run talkers() {
        Run r = new Run(c).make("person(100)", "person(100)", "person(100)", "word(9, 11)", "word(6, 21)", "word(0, 31)");
        return r.bytes(0, 0, 0).bytes(1, 1, 2, 1).bytes(2, 2).make("mend(0, 6, 51)");
    }

    private static void talkNumbers() {
        c.says("TALK (no ROW of shorts: -12): on which day (what 0), who (1), what it owes (2), HALVES (3; 0). BAD, -11; NOT.");
        Run r = talkers();
        r.due(BAD, "talk(-1, 0)", "talk(6, 0)", "talk(" + LEAST + ", 0)", "talk(" + MOST + ", 0)");
        r.due(BAD, "talk(3, -1)", "talk(3, 4)", "talk(3, " + LEAST + ")", "talk(3, " + MOST + ")", "talk(0, 4)");
        r.due(Check.NOTHING_THERE, "talk(3, 0)", "talk(3, 3)", "talk(5, 0)");
        for (int sort = 0; sort < 5; sort++) {
            r.make("row(3, " + sort + ", 0)").due("talk(3, 0)", sort == 1 ? NOT : Check.OTHER_KIND).due("talk(3, 3)", sort == 1 ? 0 : Check.OTHER_KIND);
        }
        r.make("body(0)", "keep(3, 0)").due(Check.OTHER_KIND, "talk(3, 0)", "talk(3, 3)").due("talk(3, 4)", BAD);
        r.shorts(3, 2, 0).due("talk(3, 0)", 0).due("talk(3, 1)", 2).due("talk(3, 2)", 51).due("talk(3, 3)", 0);
    }

    private static void talkLengths() {
        c.says("a ROW of shorts: by twos one of the people, a SHELF whose SENTENCE it says");
        Run r = talkers().shorts(3).due(NOT, "talk(3, 0)", "talk(3, 1)", "talk(3, 2)").due("talk(3, 3)", 0);
        r.shorts(3, 0).due(NOT, "talk(3, 0)").due("talk(3, 3)", 0);
        r.shorts(3, 0, 1).due(NOT, "talk(3, 0)", "talk(3, 2)").due("talk(3, 3)", 25);
        r.shorts(3, 0, 1, 0).due(NOT, "talk(3, 0)").due("talk(3, 3)", 25);
        r.shorts(3, 0, 1, 1, 0).due("talk(3, 0)", 1).due("talk(3, 1)", 1).due("talk(3, 2)", 56).due("talk(3, 3)", 25);
        r.shorts(3, 0, 1, 1, 0, 0).due("talk(3, 0)", 1).due("talk(3, 3)", 25);
        r = talkers().make("row(3, 1, 60)");
        for (int i = 0; i < 30; i++) {
            r.make("put(3, " + (2 * i + 1) + ", 2)");
        }
        r.due("talk(3, 0)", NOT).due("talk(3, 3)", 0);
        r.make("put(3, 58, 1)", "put(3, 59, 1)").due("talk(3, 0)", NOT).due("talk(3, 3)", (51 + 29 * 5) / 2);
        r.make("put(3, 59, 0)").due("talk(3, 0)", 29).due("talk(3, 1)", 1).due("talk(3, 2)", 51 + 29 * 5).due("talk(3, 3)", 0);
    }

    private static void talkThatIsNotSo() {
        c.says("NOT: none (also what is not so, or lacks, ends it)");
        int[][] pairs = {{-1, 0}, {3, 0}, {7, 0}, {256, 0}, {-32768, 0}, {32767, 0}, {0, -1}, {0, 6}, {0, 256}, {0, 32767},
            {0, -32768}, {0, 3}, {0, 4}, {0, 5}, {3, 6}};
        for (int[] p : pairs) {
            // SHELF 3 is the talk itself, 4 holds nothing, 5 holds a BODY
            Run r = talkers().make("body(0)", "keep(5, 0)").shorts(3, 0, 1, p[0], p[1], 2, 0);
            r.due(NOT, "talk(3, 0)", "talk(3, 1)", "talk(3, 2)").due("talk(3, 3)", 25);
        }
        Run r = talkers().shorts(3, 2, 5, 2, 0).bytes(5, 0, 0).due("talk(3, 0)", 0).due("talk(3, 1)", 2);
        r.make("row(5, 0, 0)").due("talk(3, 0)", 1);
        r.make("row(5, 4, 2)").due("talk(3, 0)", NOT);
        r = new Run(c).shorts(3, 0, 0).bytes(0).due("talk(3, 0)", NOT).due("talk(3, 3)", 0);
    }

    private static void talkHeard() {
        c.says("the first one MENTIONED heard by another ends it");
        Run r = talkers().make("mend(1, 5, 0)", "mend(2, 5, 0)").shorts(3, 0, 0, 1, 0, 2, 0);
        r.due("talk(3, 0)", 1).due("talk(3, 1)", 1).due("talk(3, 3)", 0);
        r.make("mend(2, 5, 1)").due("talk(3, 0)", 0).make("mend(2, 5, 4)").due("talk(3, 0)", 1);
        r.make("mend(0, 5, 4)").due("talk(3, 0)", 2).due("talk(3, 1)", 2).due("talk(3, 2)", 61);
        r.make("mend(0, 5, 1)").due("talk(3, 0)", NOT).due("talk(3, 3)", 0);
        r.make("mend(0, 8, 27)", "mend(1, 5, 1)").due("talk(3, 0)", 0).make("mend(0, 8, 28)").due("talk(3, 0)", NOT).due("talk(3, 3)", 25);
    }

    private static void talkByNerve() {
        c.says("one of the people, a SHELF whose SENTENCE it says");
        Run r = talkers().make("mend(1, 4, 9)").law("v=9?n*3").shorts(3, 0, 0, 2, 0, 1, 0).due("talk(3, 0)", 2).due("talk(3, 1)", 1);
        r.shorts(3, 1, 1, 0, 0, 1, 1).due("talk(3, 0)", 0).law("v=9?n*2").due("talk(3, 0)", 0).law("v=9?n").due("talk(3, 0)", NOT).due("talk(3, 3)", 25 + 30);
        c.says("CORNER: bits. BAD.");
        r = new Run(c).make("person(9)", "person(9)", "mend(1, 4, 9)", "word(1, 11)", "word(1, 21)").law("v=9?99;0");
        r.due("corner(0)", 0).due("corner(1)", 3).due("corner(0)", 0).due("ask(0, 0, 0)", 1).due("ask(1, 0, 0)", 0);
    }

    private static void talkSumOfThatDay() {
        c.says("what it owes (SUM of that day)");
        Run r = talkers().make("mend(0, 6, 9997)", "mend(0, 7, 1)").shorts(3, 0, 2, 0, 2, 1, 0).due("talk(3, 2)", 9999);
        r.make("mend(0, 6, 9996)").due("talk(3, 2)", 9998).make("mend(0, 6, 9998)").due("talk(3, 2)", 9999);
        r.make("mend(0, 6, 9999)").due("talk(3, 2)", 9999).make("mend(0, 6, 0)", "mend(0, 7, 0)").due("talk(3, 2)", 0).due("talk(3, 0)", 2);
        // days in deed, and what is told in deed, are none of the talk's
        r = talkers().make("day()", "day()", "utter(0, 0)").shorts(3, 1, 0).due("talk(3, 2)", 51).due("talk(3, 0)", 0);
    }

    private static void halves() {
        c.says("how much all owe for HALF said ones in it till then (each half the SUM of its day)");
        Run r = talkers().shorts(3, 0, 1, 1, 1, 2, 2, 0, 1, 0, 0, 0, 1);
        r.due("talk(3, 3)", 25 + 28 + 33).due("talk(3, 0)", 4);
        r.make("mend(0, 6, 0)", "mend(0, 7, 0)").due("talk(3, 3)", 0).make("mend(0, 6, 1)").due("talk(3, 3)", 0);
        r.make("mend(0, 6, 2)").due("talk(3, 3)", 3).make("mend(0, 6, 3)").due("talk(3, 3)", 3);
        r.make("mend(0, 6, 9999)", "mend(0, 7, 99)").due("talk(3, 3)", 3 * 4999);
        r.make("mend(1, 5, 0)", "mend(2, 5, 0)").due("talk(3, 3)", 4999).due("talk(3, 0)", NOT);
        r = talkers().shorts(3, 0, 1).make("mend(0, 9, 12)").due("talk(3, 3)", 25).make("mend(0, 9, 13)").due("talk(3, 3)", 0);
    }

    private static void askNumbers() {
        c.says("ASK: whether (what 0), the safest (1; NOT). BAD.");
        Run r = new Run(c).due(BAD, "ask(0, 0, 0)").make("person(9)", "person(9)").due(BAD, "ask(0, 0, 0)");
        r.make("word(1, 11)", "word(1, 21)").due("ask(0, 0, 0)", 1).due("ask(1, 1, 1)", 100);
        r.due(BAD, "ask(-1, 0, 0)", "ask(2, 0, 0)", "ask(" + LEAST + ", 0, 0)", "ask(" + MOST + ", 0, 0)");
        r.due(BAD, "ask(0, -1, 0)", "ask(0, 2, 0)", "ask(0, " + LEAST + ", 0)", "ask(0, " + MOST + ", 0)");
        r.due(BAD, "ask(0, 0, -1)", "ask(0, 0, 2)", "ask(0, 0, " + LEAST + ")", "ask(0, 0, " + MOST + ")");
    }

    private static void askBound() {
        c.says("is there an answer that is not MENTIONED by it (1, 0)");
        Run r = new Run(c).make("person(9)", "word(9, 11)").due("ask(0, 0, 0)", 0).due("ask(0, 0, 1)", NOT).due("corner(0)", 1);
        r.make("word(9, 11)").due("ask(0, 0, 0)", 0).due("ask(0, 0, 1)", NOT).due("corner(0)", 3);
        r.make("word(9, 21)", "mend(0, 8, 18)").due("ask(0, 0, 0)", 0).due("ask(0, 0, 1)", 2).due("ask(0, 2, 1)", 200).due("corner(0)", 7);
        r.make("mend(0, 8, 19)").due("ask(0, 0, 0)", 1).due("ask(0, 2, 0)", 1).due("corner(0)", 0);
        r.make("mend(0, 8, 1)").law("0").due("ask(0, 0, 0)", 1).law("1").due("ask(0, 0, 0)", 0).law("-1").due("ask(0, 0, 0)", 1);
    }

    private static void askSafest() {
        c.says("the safest: least NEAR (100 times the first WORD and the second one; of like ones the least; NOT: no such WORDS)");
        Run r = new Run(c).make("person(9)", "word(5, 11)", "word(5, 11)", "word(5, 21)", "word(5, 31)");
        r.due(2, "ask(0, 0, 1)", "ask(0, 1, 1)").due("ask(0, 2, 1)", 200).due("ask(0, 3, 1)", 300);
        r.make("mend(3, 0, 4)").due("ask(0, 0, 1)", 3).due("ask(0, 2, 1)", 203);
        r.make("mend(1, 0, 4)").due("ask(0, 0, 1)", 103).due("ask(0, 2, 1)", 201).due("ask(0, 3, 1)", 301);
        // how NEAR it comes is never below 0, so these are alike
        r.law("n=4?-9;-1").due("ask(0, 0, 1)", 2);
        r = new Run(c).make("person(9)");
        for (int i = 0; i < 15; i++) {
            r.make("word(9, 11)");
        }
        r.due("ask(0, 14, 1)", NOT).make("word(0, 21)").due("ask(0, 14, 1)", 15).due("ask(0, 15, 1)", 1500).due("ask(0, 16, 1)", BAD);
        r.make("mend(14, 0, 8)").due("ask(0, 0, 1)", 1415).due("ask(0, 15, 1)", 1514);
    }

    private static void corner() {
        c.says("which WORDS (bits), asked, leave one no such answer");
        Run r = new Run(c).due(BAD, "corner(0)").make("person(9)", "person(9)").due("corner(0)", 0);
        r.due(BAD, "corner(-1)", "corner(2)", "corner(" + LEAST + ")", "corner(" + MOST + ")");
        for (int i = 0; i < 16; i++) {
            r.make("word(9, 11)").due("corner(1)", (2 << i) - 1);
        }
        r.make("mend(15, 1, 7)", "mend(0, 8, 18)").due("corner(0)", 65535).make("mend(0, 8, 19)").due("corner(0)", 0);
        r.make("mend(0, 8, 18)", "mend(15, 0, 8)").due("corner(0)", 0);
        r.make("mend(0, 8, 14)", "mend(14, 0, 5)").due("corner(0)", 0).make("mend(0, 8, 13)").due("corner(0)", 65535);
        r.make("mend(14, 1, 0)", "mend(14, 0, 4)", "mend(15, 0, 9)", "mend(0, 8, 14)").due("corner(0)", 0);
        r.make("mend(14, 1, 7)").due("corner(0)", 0).make("mend(15, 1, 1)", "mend(0, 8, 13)").due("corner(0)", 65535);
    }
}
