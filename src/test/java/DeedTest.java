/** Promises 27 to 34: talk in deed, the image, what is undone. */
public final class DeedTest {
    private static final int BAD = WhoMentionsIt.BAD, NOT = WhoMentionsIt.NOT, STATE = WhoMentionsIt.STATE;
    private static final Check c = new Check("DeedTest");

    public static void main(String[] args) {
        utter();
        halves();
        daysAndLevies();
        image();
        undoAndRedo();
        fortyChanges();
        deedsAreNoChanges();
        c.end();
    }

    private static WhoMentionsIt table(int... means) {
        WhoMentionsIt x = Check.people(means);
        x.word(9, 11);
        x.word(6, 21);
        Check.bytes(x, 0, 0, 0);
        Check.bytes(x, 1, 1, 1);
        Check.bytes(x, 2, 1);
        x.mend(0, 8, 19);
        return x;
    }

    private static void utter() {
        WhoMentionsIt x = table(100, 40);
        c.due("no such one", x.utter(2, 0), BAD);
        c.due("no such one", x.utter(-1, 0), BAD);
        c.due("no such shelf", x.utter(0, 6), BAD);
        c.due("no such shelf", x.utter(0, -1), BAD);
        c.due("nothing there", x.utter(0, 3), Check.NOTHING_THERE);
        x.row(4, 2, 5);
        c.due("no bytes", x.utter(0, 4), Check.OTHER_KIND);
        c.due("no saying yet", x.led(0), 0);
        c.due("neither", x.utter(0, 2), 0);
        x.mend(0, 5, 0);
        c.due("unheard", x.utter(1, 0), 0);
        c.due("not told", x.led(4), NOT);
        x.mend(0, 5, 2);
        x.day();
        c.due("MEANS at most", x.utter(1, 0), 40);
        c.due("MEANS less", x.of(1, 3), 0);
        c.due("told", x.led(4), 1);
        c.due("nobody pays then", x.utter(0, 0), 0);
        c.due("nobody pays a half then", x.utter(0, 1), 0);
        c.due("sayings", x.led(0), 5);
        c.due("pence", x.led(1), 40);
        c.due("levies told", x.led(2), 1);
        c.due("levy", x.levy(), 1);
        c.due("by who has nothing", x.utter(1, 0), 0);
        c.due("told all the same", x.led(4), 1);
        c.due("levies told", x.led(2), 2);
        c.due("led", x.led(6), BAD);
        c.due("led", x.led(-1), BAD);
    }

    private static void halves() {
        WhoMentionsIt x = table(100, 40);
        x.mend(0, 8, 22);
        x.mend(0, 6, 51);
        c.due("half, cut", x.utter(0, 1), 40 >= 51 / 2 ? 25 : 0);
        c.due("not told", x.led(4), NOT);
        x.day();
        c.due("each time", x.utter(0, 1), 28);
        c.due("MEANS less", x.of(0, 3), 100 - 25 - 28);
        c.due("MEANS at most", x.utter(1, 1) + x.utter(1, 1), 40);
        c.due("none left", x.utter(1, 1), 0);
        c.due("pence", x.led(1), 93);
        c.due("no levy told", x.led(2), 0);
        x.mend(1, 5, 0);
        c.due("unheard", x.utter(0, 1), 0);
    }

    private static void daysAndLevies() {
        WhoMentionsIt x = table(9999, 9999);
        c.due("nobody", x.levy(), NOT);
        for (int i = 1; i <= 3; i++) {
            c.due("day", x.day(), i);
        }
        c.due("NOW", x.led(5), 3);
        c.due("nobody", x.levy(), NOT);
        c.due("NOW 0", x.led(5), 0);
        c.due("days", x.led(3), 3);
        x.day();
        x.utter(0, 0);
        c.due("who had told it", x.levy(), 0);
        c.due("nothing is told", x.led(4), NOT);
        c.due("days", x.led(3), 4);
        // 512 calls on one object are promised; day() says STATE only at the 999th, so this goes beyond
        WhoMentionsIt y = table(9999, 9999);
        y.mend(0, 7, 99);
        for (int i = 1; i <= 200; i++) {
            c.due("day", y.day(), i);
        }
        c.due("9999 at most", y.utter(0, 0), 9999);
        for (int i = 201; i <= 999; i++) {
            y.day();
        }
        c.due("999", y.led(5), 999);
        c.due("STATE", y.day(), STATE);
        c.due("999 still", y.led(5), 999);
        c.due("days", y.led(3), 999);
    }

    private static void image() {
        WhoMentionsIt x = table(100, 200);
        c.due("none", x.back(), STATE);
        x.day();
        x.utter(0, 2);
        c.due("kept", x.image(), 1);
        x.day();
        c.due("pays", x.utter(0, 0), 60);
        x.mend(1, 3, 7);
        x.mend(0, 4, 9);
        x.person(300);
        x.utter(2, 0);
        c.due("laid back", x.back(), 1);
        c.due("MEANS", x.of(0, 3), 100);
        c.due("MEANS", x.of(1, 3), 200);
        c.due("who came since", x.of(2, 3), 300);
        c.due("NERVE stays", x.of(0, 4), 9);
        c.due("sayings", x.led(0), 1);
        c.due("pence", x.led(1), 0);
        c.due("told", x.led(2), 0);
        c.due("days", x.led(3), 1);
        c.due("who", x.led(4), NOT);
        c.due("NOW", x.led(5), 1);
        x.utter(0, 0);
        c.due("laid back again", x.back(), 1);
        c.due("laid back again", x.of(0, 3), 100);
        x.utter(0, 0);
        c.due("a newer one", x.image(), 2);
        x.levy();
        c.due("a newer one", x.back(), 2);
        c.due("a newer one", x.led(4), 0);
        c.due("a newer one", x.led(1), 55);
    }

    private static void undoAndRedo() {
        WhoMentionsIt x = table(100);
        int before = x.count(3);
        c.due("one", before, 1);
        c.due("same number", x.mend(0, 8, 19), 19);
        c.due("none", x.count(3), 1);
        x.mend(0, 0, 5);
        x.mend(0, 0, 6);
        c.due("undo", x.undo(), 2);
        c.due("undone", x.of(0, 0), 5);
        c.due("undo", x.undo(), 1);
        c.due("undone", x.of(0, 0), 9);
        c.due("redo", x.redo(), 1);
        c.due("done again", x.of(0, 0), 5);
        c.due("same number", x.mend(0, 0, 5), 5);
        c.due("redo still", x.redo(), 0);
        c.due("done again", x.of(0, 0), 6);
        c.due("none", x.redo(), STATE);
        x.undo();
        x.mend(0, 1, 7);
        c.due("another came", x.redo(), STATE);
        c.due("undo", x.undo(), 2);
        c.due("KIN", x.of(0, 1), 1);
        c.due("undo", x.undo(), 1);
        c.due("undo", x.undo(), 0);
        c.due("BOUND", x.of(0, 8), 20);
        c.due("none", x.undo(), STATE);
        c.due("all again", x.redo(), 2);
        x.mend(0, 9, 100);
        c.due("what is BAD is none", x.redo(), 1);
    }

    private static void fortyChanges() {
        WhoMentionsIt x = Check.people(10, 20, 30);
        x.word(1, 11);
        x.word(2, 22);
        int[][] told = new int[45][];
        for (int i = 0; i < 45; i++) {
            int what = i * 7 % 10;
            int number = what < 6 ? i % 2 : 0;
            int v = what == 3 || what == 6 ? 1000 + i : (x.of(number, what) + 1) % 7 + 1;
            told[i] = new int[] {number, what, x.mend(number, what, v), v};
        }
        c.due("forty", x.count(3), 40);
        for (int i = 39; i >= 0; i--) {
            c.due("undo", x.undo(), i);
            c.due("undone", x.of(told[i + 5][0], told[i + 5][1]), told[i + 5][2]);
        }
        c.due("the five oldest stay", x.undo(), STATE);
        for (int i = 0; i < 40; i++) {
            c.due("redo", x.redo(), 39 - i);
            c.due("done again", x.of(told[i + 5][0], told[i + 5][1]), told[i + 5][3]);
        }
        c.due("all are", x.redo(), STATE);
    }

    private static void deedsAreNoChanges() {
        WhoMentionsIt x = table(100, 100);
        x.mend(0, 3, 80);
        int kept = x.count(3);
        x.undo();
        c.due("pays", x.utter(0, 0), 50);
        c.due("MEANS", x.of(0, 3), 50);
        c.due("no change", x.count(3), kept - 1);
        c.due("redo still", x.redo(), 0);
        c.due("what was told", x.of(0, 3), 80);
        x.undo();
        c.due("what it was", x.of(0, 3), 100);
        x.day();
        x.levy();
        x.image();
        x.back();
        c.due("redo still", x.redo(), 0);
    }
}
