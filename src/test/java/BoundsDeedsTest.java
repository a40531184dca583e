/** Each sentence on talk in deed, the image and what is undone that names a boundary: promises 27 to 34. */
public final class BoundsDeedsTest {
    private static final int BAD = Run.BAD, NOT = Run.NOT, STATE = Run.STATE, LEAST = Run.LEAST, MOST = Run.MOST;
    private static final Check c = new Check("BoundsDeedsTest");

    public static void main(String[] args) {
        utterRefuses();
        utterMentioned();
        utterHeard();
        utterMeansAtMost();
        utterSumOfNow();
        utterHalf();
        utterHalfTillTold();
        dayAt999();
        newLevy();
        levyOfNobody();
        ledNumbers();
        imageOfNothing();
        imageKeeps();
        imageAndLaterPeople();
        undoNone();
        redoNone();
        sameNumberIsNone();
        fortyAtMost();
        fortyOfMany();
        redoAtForty();
        otherCameBehind();
        changesOfAll();
        deedsAreNone();
        c.end();
    }

    /** SHELF 0: MENTIONED, 1: HALF said, 2: neither. */
    private static Run table(int... means) {
        Run r = new Run(c).make("word(9, 11)", "word(6, 21)", "word(0, 31)");
        for (int m : means) {
            r.make("person(" + m + ")");
        }
        return r.bytes(0, 0, 0).bytes(1, 1, 2, 1).bytes(2, 2);
    }

    private static void utterRefuses() {
        c.says("One SAYS a SENTENCE: what it PAYS. BAD, -11, -12.");
        Run r = table().due(BAD, "utter(0, 0)", "utter(0, 6)").make("person(100)", "person(100)");
        r.due(BAD, "utter(-1, 0)", "utter(2, 0)", "utter(" + LEAST + ", 0)", "utter(" + MOST + ", 0)", "utter(2, 3)");
        r.due(BAD, "utter(0, -1)", "utter(0, 6)", "utter(0, " + LEAST + ")", "utter(0, " + MOST + ")");
        r.due(Check.NOTHING_THERE, "utter(0, 3)", "utter(0, 5)");
        for (int sort = 1; sort < 5; sort++) {
            r.make("row(3, " + sort + ", 2)").due("utter(0, 3)", Check.OTHER_KIND);
        }
        r.make("body(0)", "keep(3, 0)").due("utter(0, 3)", Check.OTHER_KIND);
        r.due(0, "led(0)", "led(1)", "led(2)").due("led(4)", NOT).due(100, "of(0, 3)", "of(1, 3)");
        r.make("row(3, 0, 0)").due("utter(0, 3)", 0).due("led(0)", 1);
    }

    private static void utterMentioned() {
        c.says("one SAYS a SENTENCE: if it is MENTIONED and heard and nobody has yet, it PAYS the SUM of NOW");
        Run r = table(100, 100).make("mend(0, 8, 28)", "mend(0, 9, 28)").due("utter(0, 0)", 0).due("led(4)", NOT).due("led(2)", 0);
        r.make("mend(0, 8, 27)").due("utter(0, 0)", 50).due("led(4)", 0).due("led(2)", 1).due("led(1)", 50).due("of(0, 3)", 50);
        r.due(0, "utter(0, 0)", "utter(1, 0)").due("of(0, 3)", 50).due("of(1, 3)", 100).due("led(2)", 1).due("led(1)", 50).due("led(4)", 0);
        r.due("led(0)", 4);
        r = table(100, 100).make("mend(1, 4, 9)").law("v=9?n*2;0").due("utter(0, 0)", 0).due("utter(1, 0)", 50).due("led(4)", 1);
        c.says("it ends with what is no WORD");
        r = table(100, 100).like(3, 11, 2).make("put(3, 10, 0)", "mend(0, 8, 9)").due("utter(0, 3)", 0).due("led(4)", NOT);
        r.make("put(3, 9, 0)").due("utter(0, 3)", 50).due("led(4)", 0);
    }

    private static void utterHeard() {
        c.says("if somebody but it hears it (one whose EARS have it)");
        Run r = table(100).due("utter(0, 0)", 0).due("utter(0, 1)", 0).due("led(4)", NOT).due("led(0)", 2);
        r.make("person(100)", "mend(1, 5, 126)", "mend(0, 5, 127)").due(0, "utter(0, 0)", "utter(0, 1)").due("led(4)", NOT);
        r.make("mend(1, 5, 1)").due("utter(0, 1)", 25).due("utter(0, 0)", 50).due("led(4)", 0).due("of(0, 3)", 25);
    }

    private static void utterMeansAtMost() {
        c.says("it PAYS the SUM of NOW (MEANS at most; MEANS less), and it is told");
        int[] means = {0, 1, 49, 50, 51, 9999};
        for (int m : means) {
            Run r = table(m, 100).due("utter(0, 0)", Math.min(50, m)).due("of(0, 3)", m - Math.min(50, m));
            r.due("led(4)", 0).due("led(2)", 1).due("led(1)", Math.min(50, m));
            r = table(m, 100).due("utter(0, 1)", Math.min(25, m)).due("of(0, 3)", m - Math.min(25, m)).due("led(4)", NOT).due("led(2)", 0);
        }
        Run r = table(100, 100).make("mend(0, 6, 0)").due(0, "utter(0, 1)", "utter(0, 0)").due("led(4)", 0).due("of(0, 3)", 100);
    }

    private static void utterSumOfNow() {
        c.says("9999 at most");
        Run r = table(9999, 9999).make("mend(0, 6, 9994)", "mend(0, 7, 5)", "day()").due("utter(0, 0)", 9999).due("of(0, 3)", 0);
        r = table(9999, 9999).make("mend(0, 6, 9993)", "mend(0, 7, 5)", "day()").due("utter(0, 0)", 9998);
        r = table(9999, 9999).make("mend(0, 6, 9995)", "mend(0, 7, 5)", "day()").due("utter(0, 0)", 9999);
        r = table(9999, 9999).make("mend(0, 6, 0)", "mend(0, 7, 99)").due("utter(0, 1)", 0);
        for (int i = 0; i < 101; i++) {
            r.make("day()");
        }
        r.due("utter(1, 1)", 9999 / 2).due("utter(0, 0)", 9999).due("led(5)", 101);
        c.says("a DAY passes (NOW more)");
        r = table(999, 999).due("utter(0, 1)", 25).make("day()").due("utter(0, 1)", 27).make("day()").due("utter(0, 1)", 30).due("utter(0, 0)", 60);
    }

    private static void utterHalf() {
        c.says("HALF: half of it likewise, each time, till it is told");
        int[] sums = {0, 1, 2, 3, 9999};
        for (int sum : sums) {
            Run r = table(9999, 9999).make("mend(0, 6, " + sum + ")").due(sum / 2, "utter(0, 1)", "utter(0, 1)", "utter(1, 1)");
            r.due("led(1)", 3 * (sum / 2)).due("led(0)", 3).due("led(2)", 0).due("led(4)", NOT);
        }
        Run r = table(60, 60).due("utter(0, 1)", 25).due("utter(0, 1)", 25).due("utter(0, 1)", 10).due("utter(0, 1)", 0).due("of(0, 3)", 0);
        r = table(60, 60).make("mend(0, 9, 13)").due("utter(0, 1)", 0).make("mend(0, 9, 12)").due("utter(0, 1)", 25);
    }

    private static void utterHalfTillTold() {
        c.says("each time, till it is told");
        Run r = table(100, 100).due("utter(0, 1)", 25).due("utter(1, 0)", 50).due(0, "utter(0, 1)", "utter(1, 1)", "utter(0, 0)");
        r.due("led(0)", 5).due("led(1)", 75).make("levy()").due("utter(0, 1)", 25).due("led(1)", 100).due("led(2)", 1);
    }

    private static void dayAt999() {
        c.says("A DAY passes: NOW. STATE: it is 999.");
        // an object need not serve for more than 512 calls, so this reaches beyond what is promised
        WhoMentionsIt x = new WhoMentionsIt();
        for (int i = 1; i <= 999; i++) {
            c.due("day()", x.day(), i);
        }
        c.due("day()", x.day(), STATE);
        c.due("NOW", x.led(5), 999);
        c.due("days", x.led(3), 999);
        c.due("levy()", x.levy(), NOT);
        c.due("day()", x.day(), 1);
        c.due("days", x.led(3), 1000);
        Run r = new Run(c).due("led(5)", 0).due("day()", 1).due("led(5)", 1).due("led(3)", 1);
        for (int i = 2; i <= 500; i++) {
            r.due("day()", i);
        }
    }

    private static void newLevy() {
        c.says("A NEW LEVY: nothing is told, NOW 0.");
        Run r = table(100, 100).make("day()", "day()").due("utter(1, 0)", 60).due("levy()", 1).due("led(4)", NOT).due("led(5)", 0);
        r.due("led(3)", 2).due("led(2)", 1).due("led(1)", 60).due("led(0)", 1).due("of(1, 3)", 40);
        r.due("utter(0, 0)", 50).due("led(2)", 2).due("levy()", 0);
    }

    private static void levyOfNobody() {
        c.says("A NEW LEVY: who had told it (NOT).");
        Run r = new Run(c).due(NOT, "levy()", "levy()").due("led(5)", 0).due("led(2)", 0);
        r = table(100, 100).make("day()", "utter(0, 1)", "utter(0, 2)").due("levy()", NOT).due("led(5)", 0).due("led(3)", 1).due("led(2)", 0);
        r.make("utter(1, 0)").due("levy()", 1).due("levy()", NOT);
    }

    private static void ledNumbers() {
        c.says("LED: sayings (what 0), pence (1), told (2), days (3), who (4; NOT), NOW (5). BAD.");
        Run r = table(100, 100).due(BAD, "led(-1)", "led(6)", "led(" + LEAST + ")", "led(" + MOST + ")");
        r.due(0, "led(0)", "led(1)", "led(2)", "led(3)", "led(5)").due("led(4)", NOT);
        r.make("utter(0, 2)").due("led(0)", 1).due("led(1)", 0);
    }

    private static void imageOfNothing() {
        c.says("It is laid back (PEOPLE that came since keep their MEANS): sayings. STATE: there is none.");
        Run r = new Run(c).refused("back()", STATE, "led(0)").due("image()", 0).due(0, "back()", "back()", "led(0)");
        r = table(100, 100).make("day()", "utter(0, 0)").refused("back()", STATE, "of(0, 3)");
        r.due("led(4)", 0).due("led(5)", 1).due("led(1)", 55);
        // without anybody, and with all
        r = new Run(c).make("image()");
        for (int i = 0; i < 7; i++) {
            r.make("person(" + i + ")");
        }
        r.make("back()").due("of(6, 3)", 6).make("image()", "mend(6, 3, 66)", "mend(0, 3, 77)").due("back()", 0).due("of(6, 3)", 6).due("of(0, 3)", 0);
    }

    private static void imageKeeps() {
        c.says("AN IMAGE keeps MEANS, NOW, what is told, what LED tells.");
        Run r = table(100, 200).make("day()", "utter(0, 1)", "utter(1, 0)").due("image()", 2);
        r.make("levy()", "day()", "day()", "utter(0, 0)", "mend(1, 3, 9999)", "mend(0, 6, 77)", "mend(0, 4, 9)", "word(1, 11)");
        r.due("led(4)", 0).due("back()", 2).due("led(0)", 2).due("led(1)", 82).due("led(2)", 1).due("led(3)", 1).due("led(4)", 1).due("led(5)", 1);
        r.due("of(0, 3)", 73).due("of(1, 3)", 145).due("of(0, 6)", 77).due("of(0, 4)", 9).due("count(0)", 4).due("count(3)", 3);
        r.make("utter(0, 0)", "day()").due("back()", 2).due("led(5)", 1).due("utter(0, 0)", 0).due("image()", 3).due("back()", 3);
        // nobody had told it then
        r = table(100, 100).make("image()").due("utter(0, 0)", 50).due("back()", 0).due("led(4)", NOT).due("utter(1, 0)", 50).due("led(4)", 1);
    }

    private static void imageAndLaterPeople() {
        c.says("(PEOPLE that came since keep their MEANS)");
        Run r = table(100).make("image()", "person(300)", "mend(0, 3, 5)").due("utter(1, 0)", 50).due("back()", 0).due("of(1, 3)", 250).due("of(0, 3)", 100);
        r.make("image()", "mend(1, 3, 1)", "person(7)", "mend(2, 3, 8)").due("back()", 0).due("of(1, 3)", 250).due("of(2, 3)", 8);
    }

    private static void undoNone() {
        c.says("UNDONE: how many may still be. STATE: none.");
        Run r = new Run(c).refused("undo()", STATE, "count(3)").make("mend(0, 6, 60)").due("undo()", 0).due("of(0, 6)", 50);
        r.refused("undo()", STATE, "of(0, 6)").due("redo()", 0).due("of(0, 6)", 60).due("undo()", 0).due("undo()", STATE).due("redo()", 0);
        r.make("mend(0, 6, 61)", "mend(0, 6, 62)").due("count(3)", 3).due("undo()", 2).due("count(3)", 2).due("undo()", 1).due("undo()", 0).due("undo()", STATE);
        r.due("of(0, 6)", 50);
    }

    private static void redoNone() {
        c.says("DONE AGAIN: how many may still be. STATE: none.");
        Run r = new Run(c).refused("redo()", STATE, "count(3)").make("mend(0, 6, 60)").refused("redo()", STATE, "of(0, 6)");
        r.make("mend(0, 7, 6)", "undo()", "undo()").due("redo()", 1).due("redo()", 0).refused("redo()", STATE, "of(0, 7)").due("of(0, 7)", 6);
        r.due("count(3)", 2);
    }

    private static void sameNumberIsNone() {
        c.says("telling the same number is none");
        Run r = table(100).due("mend(0, 6, 50)", 50).due("mend(0, 3, 100)", 100).due("mend(2, 0, 0)", 0).due("count(3)", 0).due("undo()", STATE);
        r.make("mend(0, 6, 51)", "undo()").due("mend(0, 6, 50)", 50).due("count(3)", 0).due("redo()", 0).due("of(0, 6)", 51);
        r.due("mend(0, 6, 51)", 51).due("count(3)", 1).due("mend(0, 6, 50)", 51).due("count(3)", 2);
    }

    private static void fortyAtMost() {
        c.says("40 at most are kept");
        for (int many = 38; many <= 43; many++) {
            Run r = new Run(c);
            for (int i = 0; i < many; i++) {
                r.due("mend(0, 6, " + (100 + i) + ")", i == 0 ? 50 : 99 + i).due("count(3)", Math.min(40, i + 1));
            }
            for (int i = Math.min(40, many) - 1; i >= 0; i--) {
                r.due("undo()", i);
            }
            r.refused("undo()", STATE, "of(0, 6)").due("of(0, 6)", many <= 40 ? 50 : 100 + many - 41).due("count(3)", 0);
            for (int i = Math.min(40, many) - 1; i >= 0; i--) {
                r.due("redo()", i).due("of(0, 6)", 99 + many - i);
            }
            r.refused("redo()", STATE, "of(0, 6)").due("of(0, 6)", 99 + many).due("count(3)", Math.min(40, many));
        }
    }

    /** The forty that are kept are whole: whose, what, and both numbers. */
    private static void fortyOfMany() {
        Run r = new Run(c);
        for (int i = 0; i < 7; i++) {
            r.make("person(100)");
        }
        for (int i = 0; i < 43; i++) {
            r.make("mend(" + i % 7 + ", 3, " + (200 + i) + ")");
        }
        for (int i = 42; i >= 3; i--) {
            r.due("of(" + i % 7 + ", 3)", 200 + i).due("undo()", i - 3).due("of(" + i % 7 + ", 3)", i < 7 ? 100 : 193 + i);
        }
        r.due("undo()", STATE).due("of(0, 3)", 200).due("of(2, 3)", 202).due("of(3, 3)", 100);
        for (int i = 3; i < 43; i++) {
            r.due("redo()", 42 - i).due("of(" + i % 7 + ", 3)", 200 + i);
        }
        r.due("redo()", STATE).make("mend(0, 6, 1)", "undo()", "undo()").due("of(0, 3)", 235).due("of(0, 6)", 50);
    }

    private static void redoAtForty() {
        c.says("the latest first, and DONE AGAIN (as long as no other came behind)");
        Run r = new Run(c);
        for (int i = 0; i < 41; i++) {
            r.make("mend(0, 6, " + (100 + i) + ")");
        }
        r.due("undo()", 39).due("count(3)", 39).make("mend(0, 7, 9)").due("count(3)", 40).due("redo()", STATE);
        r.make("mend(0, 7, 8)").due("count(3)", 40).due("undo()", 39).due("undo()", 38).due("of(0, 7)", 5).due("of(0, 6)", 139).due("redo()", 1);
        for (int i = 38; i >= 0; i--) {
            r.due("undo()", i);
        }
        r.due("of(0, 6)", 101).due("undo()", STATE);
    }

    private static void otherCameBehind() {
        c.says("(as long as no other came behind)");
        Run r = new Run(c).make("mend(0, 6, 60)", "mend(0, 6, 70)", "undo()", "mend(0, 7, 9)").refused("redo()", STATE, "of(0, 6)");
        r.due("count(3)", 2).due("undo()", 1).due("of(0, 7)", 5).due("of(0, 6)", 60).due("redo()", 0).due("of(0, 7)", 9);
        // what is refused, or is no change, is no other
        r.make("undo()").due("mend(0, 6, 10000)", BAD).due("mend(0, 6, 60)", 60).make("word(1, 11)", "person(9)", "day()", "levy()");
        r.due("redo()", 0).due("of(0, 7)", 9);
    }

    private static void changesOfAll() {
        c.says("CHANGES (all numbers of mend(); telling the same number is none) can be UNDONE, the latest first");
        int[] values = {5, 6, 7, 888, 8, 88, 777, 66, 55, 44};
        Run r = new Run(c).make("word(1, 11)", "word(2, 22)", "person(9)", "person(8)");
        long[] was = new long[10];
        for (int what = 0; what < 10; what++) {
            String who = what < 6 ? "1, " : "0, ";
            was[what] = r.ask("of(" + who + what + ")");
            r.due("mend(" + who + what + ", " + values[what] + ")", was[what]);
        }
        for (int what = 9; what >= 0; what--) {
            r.due("of(" + (what < 6 ? "1, " : "0, ") + what + ")", values[what]).due("undo()", what);
            r.due("of(" + (what < 6 ? "1, " : "0, ") + what + ")", was[what]);
        }
        for (int what = 0; what < 10; what++) {
            r.due("redo()", 9 - what).due("of(" + (what < 6 ? "1, " : "0, ") + what + ")", values[what]);
        }
    }

    private static void deedsAreNone() {
        c.says("deeds are none (MEANS by them, too)");
        Run r = table(100, 100).make("day()", "image()", "utter(0, 1)", "utter(1, 0)", "levy()", "back()").due("count(3)", 0).due("undo()", STATE).due("redo()", STATE);
        r = table(100, 100).make("mend(0, 3, 80)", "utter(0, 0)").due("of(0, 3)", 30).due("count(3)", 1).due("undo()", 0).due("of(0, 3)", 100).due("led(1)", 50);
        r.make("levy()").due("utter(0, 0)", 50).due("redo()", 0).due("of(0, 3)", 80);
    }
}
