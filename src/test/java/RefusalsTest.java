import java.util.ArrayList;
import java.util.List;

/**
 * Every refused call, promise by promise: its answer, and that it changes nothing. Each is made on one of
 * two like tables; after it both must answer alike all that is asked and done then.
 */
public final class RefusalsTest {
    private static final int BAD = Run.BAD, FULL = Run.FULL, STATE = Run.STATE, NOT = Run.NOT, VOID = Run.VOID;
    private static final Check c = new Check("RefusalsTest");

    /** The tables on which calls are refused. */
    private enum Table { NEW, RICH, FULL }

    public static void main(String[] args) {
        c.says("What is answered so changes nothing.");
        notOnANewTable();
        wordsAndPeople();
        thought();
        waiting();
        months();
        deeds();
        acts();
        shelves();
        full();
        states();
        saysNotAndChangesNothing();
        whatIsAskedChangesNothing();
        theTwinsTellApart();
        c.end();
    }

    private static void refused(Table table, long want, String... calls) {
        for (String call : calls) {
            WhoMentionsIt x = made(table);
            c.due(call + " on " + table, Run.answer(x, call), want);
            List<String> after = asked(x);
            List<String> due = asked(made(table));
            for (int i = 0; i < due.size(); i++) {
                c.due("behind " + call + " on " + table + ": " + after.get(i) + ", without it " + due.get(i),
                        after.get(i).equals(due.get(i)) ? 1 : 0, 1);
            }
        }
    }

    private static WhoMentionsIt made(Table table) {
        WhoMentionsIt x = new WhoMentionsIt();
        if (table == Table.RICH) {
            makeRich(x);
        } else if (table == Table.FULL) {
            makeFull(x);
        }
        return x;
    }

    private static void make(WhoMentionsIt x, String... calls) {
        for (String call : calls) {
            Run.answer(x, call);
        }
    }

    /** SHELF 0: a SENTENCE, 1: a TALK, 2: MONTHS, 3: a BODY, 4: nothing, 5: longs. Something of all else, too. */
    private static void makeRich(WhoMentionsIt x) {
        make(x, "word(3, 12)", "word(5, 11)", "word(9, 23)", "word(0, 34)", "person(300)", "person(400)", "person(50)");
        Check.bytes(x, 0, 0, 1, 2, 0);
        Check.shorts(x, 1, 0, 2, 1, 0, 2);
        Check.bytes(x, 2, 0, 3, -1, 1, 2, -1, 3);
        make(x, "body(5)", "body(7)", "keep(3, 1)", "row(5, 3, 4)", "put(5, 3, 123456789012)", "put(5, 0, -1)");
        Check.law(x, "n+b-v/9");
        make(x, "mend(0, 6, 70)", "mend(1, 4, 9)", "mend(2, 5, 65)", "mend(0, 3, 333)", "mend(3, 1, 7)", "undo()", "undo()");
        make(x, "day()", "utter(1, 0)", "image()", "levy()", "day()", "day()", "utter(0, 0)", "act(0, 3, 6)");
        make(x, "feed(110)", "feed(43)", "feed(57)");
    }

    private static void makeFull(WhoMentionsIt x) {
        for (int i = 0; i < 16; i++) {
            make(x, "word(" + i % 10 + ", " + (i % 8 * 10 + 1 + i % 9) + ")");
        }
        for (int i = 0; i < 7; i++) {
            make(x, "person(" + 70 * i + ")");
        }
        for (int i = 0; i < 50; i++) {
            make(x, "body(" + i % 8 + ")");
        }
        for (char letter : ("77" + "+0".repeat(59)).toCharArray()) {
            x.feed(letter);
        }
        make(x, "row(0, 0, 9)", "put(0, 3, 1)", "put(0, 4, 2)", "put(0, 5, 3)", "put(0, 6, 4)", "put(0, 7, 5)", "put(0, 8, 6)");
        for (int i = 0; i < 41; i++) {
            make(x, "mend(0, 6, " + (100 + i) + ")");
        }
    }

    /**
     * All that can be asked, and then what only deeds, undoing, the law and new numbers bring to light:
     * with the making of the fullest table some 460 calls, of the 512 that an object is good for.
     */
    private static List<String> asked(WhoMentionsIt x) {
        List<String> all = new ArrayList<>();
        ask(x, all, "count(0)", "count(1)", "count(2)", "count(3)", "count(4)", "count(5)", "led(0)", "led(1)", "led(2)", "led(3)", "led(4)", "led(5)");
        for (int i = 0; i < 11; i++) {
            ask(x, all, "trace(" + i + ")");
        }
        for (int shelf = 0; shelf < 6; shelf++) {
            ask(x, all, "taken(" + shelf + ", 0)", "shift(" + shelf + ", 0, " + shelf + ", 0, 0)", "said(" + shelf + ", 0, 0)");
            for (int i = 0; i < 9; i++) {
                ask(x, all, "element(" + shelf + ", " + i + ")");
            }
        }
        askNumbers(x, all);
        ask(x, all, "feed(49)", "law()", "said(0, 0, 0)", "said(0, 1, 0)", "drawn(5, 20, 0)");
        ask(x, all, "redo()", "redo()", "redo()", "of(0, 3)", "of(3, 1)", "undo()", "undo()", "undo()", "undo()", "undo()", "undo()");
        ask(x, all, "of(0, 3)", "of(1, 4)", "of(2, 5)", "of(3, 1)", "of(0, 6)");
        ask(x, all, "back()", "of(0, 3)", "of(1, 3)", "led(4)", "utter(0, 0)", "levy()", "day()", "utter(1, 0)", "of(1, 3)", "led(1)");
        ask(x, all, "word(1, 11)", "person(1)", "body(0)", "act(0, 3, 1)", "keep(0, 0)");
        return all;
    }

    private static void askNumbers(WhoMentionsIt x, List<String> all) {
        for (int what = 0; what < 10; what++) {
            int many = what < 3 ? x.count(0) : what < 6 ? x.count(1) : 1;
            for (int number = 0; number < many; number++) {
                ask(x, all, "of(" + number + ", " + what + ")");
            }
        }
    }

    private static void ask(WhoMentionsIt x, List<String> all, String... calls) {
        for (String call : calls) {
            all.add(call + " " + Run.answer(x, call));
        }
    }

    /** With nobody and no WORDS there, every call that names one is BAD. */
    private static void notOnANewTable() {
        refused(Table.NEW, BAD, "of(0, 0)", "of(0, 3)", "mend(0, 0, 1)", "mend(0, 5, 1)", "said(0, 0, 0)", "safely(0, 0, -1)", "pad(0, 0)",
                "dangerous(0, 0)", "wordFor(0, 0)", "bare(0)", "can(0)", "treaty(0, 0)", "ask(0, 0, 0)", "corner(0)", "judge(0, 0)",
                "months(0, 0, 0)", "mayBe(0, 0)", "utter(0, 0)", "trace(0)", "keep(0, 0)");
        refused(Table.NEW, NOT, "firstToGo(0)", "firstToGo(1)", "drawn(1, 9, 2)", "led(4)");
        refused(Table.NEW, Check.NOTHING_THERE, "talk(0, 0)", "put(0, 0, 1)", "shift(0, 0, 0, 0, 0)", "taken(0, 0)");
        refused(Table.NEW, 0, "words(0, 0, 1)", "act(0, 0, 1)");
        refused(Table.NEW, Long.MIN_VALUE, "element(0, 0)");
    }

    private static void wordsAndPeople() {
        refused(Table.RICH, BAD, "word(-1, 11)", "word(10, 11)", "word(0, 0)", "word(0, 10)", "word(0, 81)", "word(0, -1)");
        refused(Table.RICH, BAD, "words(-1, 0, 1)", "words(6, 0, 1)", "words(0, 0, 0)", "words(0, 0, 17)", "words(1, 0, 17)");
        refused(Table.RICH, Check.OTHER_KIND, "words(1, 0, 1)", "words(3, 0, 1)", "words(5, 0, 1)", "words(1, -1, 1)");
        refused(Table.RICH, 0, "words(4, 0, 1)", "words(0, -1, 1)", "words(0, 2, 1)", "words(0, 60, 16)", "words(2, 1, 2)");
        refused(Table.RICH, BAD, "person(-1)", "person(10000)");
        refused(Table.RICH, BAD, "mend(4, 0, 1)", "mend(-1, 0, 1)", "mend(3, 3, 1)", "mend(-1, 5, 1)", "mend(1, 6, 1)", "mend(1, 9, 1)", "mend(0, -1, 1)", "mend(0, 10, 1)");
        int[][] out = {{-1, 10}, {-1, 8}, {0, 10}, {-1, 10000}, {-1, 10}, {-1, 128}, {-1, 10000}, {-1, 100}, {0, 100}, {0, 100}};
        for (int what = 0; what < 10; what++) {
            refused(Table.RICH, BAD, "mend(0, " + what + ", " + out[what][0] + ")", "mend(0, " + what + ", " + out[what][1] + ")");
        }
        refused(Table.RICH, BAD, "of(4, 0)", "of(-1, 0)", "of(3, 3)", "of(1, 6)", "of(-1, 9)", "of(0, -1)", "of(0, 10)");
        refused(Table.RICH, BAD, "feed(-1)", "feed(256)");
    }

    private static void thought() {
        for (String call : new String[] {"said(S, 0, 0)", "safely(S, 0, -1)", "pad(S, 0)"}) {
            refused(Table.RICH, BAD, call.replace("S", "-1"), call.replace("S", "6"));
            refused(Table.RICH, Check.NOTHING_THERE, call.replace("S", "4"));
            refused(Table.RICH, Check.OTHER_KIND, call.replace("S", "1"), call.replace("S", "3"), call.replace("S", "5"));
        }
        // BAD is the one named first
        refused(Table.RICH, BAD, "said(0, -1, 0)", "said(0, 3, 0)", "said(0, 0, -1)", "said(0, 0, 6)", "said(4, 3, 0)", "said(1, 0, 6)");
        refused(Table.RICH, BAD, "safely(0, -1, 0)", "safely(0, 300, 0)", "safely(0, 0, -2)", "safely(4, 300, 0)", "safely(1, 0, -2)");
        refused(Table.RICH, BAD, "pad(0, -1)", "pad(0, 300)", "pad(4, 300)", "pad(1, -1)");
        refused(Table.RICH, NOT, "said(2, 0, 2)", "safely(0, 0, -1)", "safely(0, 99, 4)", "pad(0, 0)");
        refused(Table.RICH, BAD, "dangerous(-1, 0)", "dangerous(3, 0)", "dangerous(0, -1)", "dangerous(0, 2)");
        refused(Table.RICH, BAD, "wordFor(-1, 0)", "wordFor(4, 0)", "wordFor(0, -1)", "wordFor(0, 3)", "bare(-1)", "bare(300)");
    }

    private static void waiting() {
        refused(Table.RICH, BAD, "sum(-1)", "sum(100)", "can(-1)", "can(3)", "firstToGo(-1)", "firstToGo(2)");
        refused(Table.RICH, NOT, "can(2)");
        refused(Table.RICH, VOID, "begin(-1)", "begin(10000)", "begin(100)", "begin(9998)");
        refused(Table.RICH, BAD, "treaty(-1, 0)", "treaty(3, 0)", "treaty(0, -1)", "treaty(0, 3)", "treaty(1, 1)", "treaty(1, 2)");
        refused(Table.RICH, BAD, "talk(-1, 0)", "talk(6, 0)", "talk(1, -1)", "talk(1, 4)", "talk(4, 4)", "talk(0, -1)");
        refused(Table.RICH, Check.NOTHING_THERE, "talk(4, 0)");
        refused(Table.RICH, Check.OTHER_KIND, "talk(0, 0)", "talk(3, 3)", "talk(5, 0)");
        refused(Table.RICH, BAD, "ask(-1, 0, 0)", "ask(3, 0, 0)", "ask(0, -1, 0)", "ask(0, 4, 0)", "ask(0, 0, -1)", "ask(0, 0, 2)", "corner(-1)", "corner(3)");
    }

    private static void months() {
        for (String call : new String[] {"judge(S, 0)", "months(S, 0, 0)", "months(S, 0, 2)", "mayBe(S, 0)"}) {
            refused(Table.RICH, BAD, call.replace("S", "-1"), call.replace("S", "6"));
            refused(Table.RICH, Check.NOTHING_THERE, call.replace("S", "4"));
            refused(Table.RICH, Check.OTHER_KIND, call.replace("S", "1"), call.replace("S", "3"), call.replace("S", "5"));
        }
        refused(Table.RICH, BAD, "judge(2, -1)", "judge(2, 3)", "judge(4, 3)", "months(2, -1, 0)", "months(2, 3, 0)", "months(2, 0, -1)", "months(2, 0, 3)", "months(1, 0, 3)");
        refused(Table.RICH, BAD, "mayBe(2, -1)", "mayBe(2, 4)", "mayBe(2, 99)", "mayBe(2, 300)", "mayBe(4, 4)", "mayBe(1, 300)");
        refused(Table.RICH, BAD, "drawn(1, 0, 0)", "drawn(1, 100, 0)", "drawn(1, 1, -1)", "drawn(1, 1, 3)");
        refused(Table.RICH, NOT, "judge(2, 0)");
    }

    private static void deeds() {
        refused(Table.RICH, BAD, "utter(-1, 0)", "utter(3, 0)", "utter(0, -1)", "utter(0, 6)", "utter(3, 4)", "utter(-1, 1)");
        refused(Table.RICH, Check.NOTHING_THERE, "utter(0, 4)");
        refused(Table.RICH, Check.OTHER_KIND, "utter(0, 1)", "utter(0, 3)", "utter(0, 5)");
        refused(Table.RICH, BAD, "led(-1)", "led(6)", "count(-1)", "count(6)");
    }

    private static void acts() {
        refused(Table.RICH, BAD, "body(-1)", "body(8)", "trace(-1)", "trace(10)", "trace(24)");
        refused(Table.RICH, BAD, "keep(-1, 0)", "keep(6, 0)", "keep(0, -2)", "keep(0, 2)", "keep(3, 2)", "keep(6, -1)");
        refused(Table.RICH, BAD, "taken(-1, 0)", "taken(6, 0)", "taken(3, -1)", "taken(3, 8)", "taken(4, 8)");
        refused(Table.RICH, Check.NOTHING_THERE, "taken(4, 0)");
        refused(Table.RICH, Check.OTHER_KIND, "taken(0, 0)", "taken(3, 1)", "taken(3, 5)");
    }

    private static void shelves() {
        refused(Table.RICH, BAD, "row(-1, 0, 1)", "row(6, 0, 1)", "row(0, -1, 1)", "row(0, 5, 1)", "row(0, 0, 61)", "row(0, 5, -1)", "row(6, 0, -1)", "row(3, 0, 61)");
        refused(Table.RICH, Check.BELOW_ZERO, "row(0, 0, -1)", "row(3, 1, -1)", "row(4, 4, -1)", "row(5, 3, -2147483648)");
        refused(Table.RICH, BAD, "put(-1, 0, 1)", "put(6, 0, 1)");
        refused(Table.RICH, Check.NOTHING_THERE, "put(4, 0, 1)");
        refused(Table.RICH, Check.OTHER_KIND, "put(3, 0, 1)");
        refused(Table.RICH, Check.NO_PLACE, "put(0, -1, 1)", "put(0, 4, 1)", "put(5, 4, 1)", "put(5, -1, 1)");
        refused(Table.RICH, Long.MIN_VALUE, "element(-1, 0)", "element(6, 0)", "element(4, 0)", "element(3, 0)", "element(0, -1)", "element(0, 4)");
        refused(Table.RICH, BAD, "shift(-1, 0, 0, 0, 1)", "shift(0, 0, 6, 0, 1)", "shift(6, 0, 4, 0, 1)");
        refused(Table.RICH, Check.NOTHING_THERE, "shift(4, 0, 0, 0, 1)", "shift(0, 0, 4, 0, 1)", "shift(3, 0, 4, 0, 1)", "shift(4, 0, 3, 0, -1)");
        refused(Table.RICH, Check.OTHER_KIND, "shift(3, 0, 0, 0, 1)", "shift(0, 0, 3, 0, 1)", "shift(0, 0, 1, 0, 1)", "shift(5, 0, 2, 0, 1)", "shift(0, 0, 1, 0, -1)");
        refused(Table.RICH, Check.NO_PLACE, "shift(0, 0, 2, 0, -1)", "shift(0, 0, 2, 0, 5)", "shift(0, 3, 2, 0, 2)", "shift(0, 0, 2, 6, 2)", "shift(0, -1, 2, 0, 2)", "shift(0, 0, 2, -1, 2)", "shift(0, 5, 2, 0, 0)");
    }

    private static void full() {
        refused(Table.FULL, FULL, "word(0, 11)", "word(9, 79)", "person(0)", "person(9999)", "body(0)", "body(7)", "feed(0)", "feed(110)", "feed(255)");
        refused(Table.FULL, BAD, "word(10, 11)", "word(0, 80)", "person(-1)", "person(10000)", "body(8)", "body(-1)", "feed(256)", "feed(-1)");
        refused(Table.FULL, BAD, "of(16, 0)", "of(7, 3)", "mend(16, 0, 1)", "mend(7, 3, 1)", "keep(0, 50)", "said(0, 7, 0)", "bare(700)", "mayBe(0, 16)");
        refused(Table.FULL, 0, "words(0, 0, 1)", "words(0, 0, 16)", "words(0, 9, 1)");
    }

    private static void states() {
        refused(Table.NEW, STATE, "undo()", "redo()", "back()");
        refused(Table.FULL, STATE, "redo()", "back()");
        WhoMentionsIt x = made(Table.RICH);
        make(x, "undo()", "undo()", "undo()");
        c.due("undo()", x.undo(), STATE);
        c.due("redo()", x.redo(), 4);
    }

    /** What tells NOT of what is asked in thought changes nothing; telling the same number is no change. */
    private static void saysNotAndChangesNothing() {
        refused(Table.RICH, 70, "mend(0, 6, 70)");
        refused(Table.RICH, 9, "mend(1, 4, 9)");
        refused(Table.RICH, NOT, "talk(1, 0)", "talk(1, 1)", "talk(1, 2)", "safely(0, 1, 0)");
    }

    private static void whatIsAskedChangesNothing() {
        String[] calls = {"of(0, 3)", "said(0, 1, 4)", "safely(0, 99, -1)", "safely(0, 99, 2)", "pad(0, 99)", "pad(0, 12)", "dangerous(0, 0)",
            "dangerous(1, 1)", "wordFor(0, 0)", "bare(3)", "sum(9)", "can(0)", "firstToGo(0)", "firstToGo(1)", "begin(109)", "treaty(0, 0)",
            "treaty(0, 1)", "treaty(0, 2)", "talk(1, 3)", "ask(0, 0, 0)", "ask(0, 0, 1)", "corner(0)", "judge(2, 1)", "months(2, 0, 0)",
            "months(2, 0, 1)", "months(2, 0, 2)", "mayBe(2, 0)", "mayBe(2, 102)", "drawn(7, 40, 0)", "led(1)", "trace(0)", "element(5, 3)",
            "taken(3, 6)", "count(5)"};
        for (String call : calls) {
            refused(Table.RICH, Run.answer(made(Table.RICH), call), call);
        }
    }

    /** Calls that do change something, to see that the twins tell it. */
    private static void theTwinsTellApart() {
        String[] calls = {"word(1, 11)", "words(0, 0, 1)", "person(5)", "mend(0, 6, 71)", "mend(0, 9, 13)", "feed(48)", "law()", "utter(2, 2)", "day()",
            "levy()", "image()", "back()", "undo()", "redo()", "body(0)", "act(0, 0, 0)", "act(9, 9, 9)", "keep(0, -1)", "keep(3, 0)",
            "row(4, 0, 0)", "row(0, 0, 4)", "put(0, 0, 3)", "put(5, 3, 9)", "shift(0, 0, 2, 1, 2)"};
        List<String> due = asked(made(Table.RICH));
        for (String call : calls) {
            WhoMentionsIt x = made(Table.RICH);
            make(x, call);
            c.due(call + " is told", asked(x).equals(due) ? 0 : 1, 1);
        }
    }
}
