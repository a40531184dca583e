/** Promises 23 to 26: months read back, days by draws. */
public final class MonthsTest {
    private static final int BAD = WhoMentionsIt.BAD, NOT = WhoMentionsIt.NOT;
    private static final Check c = new Check("MonthsTest");

    public static void main(String[] args) {
        refusals();
        judge();
        months();
        tooNear();
        mayBe();
        drawn();
        c.end();
    }

    private static WhoMentionsIt table() {
        WhoMentionsIt x = Check.people(100, 100);
        x.word(9, 11);
        x.word(4, 21);
        x.word(0, 31);
        return x;
    }

    private static void refusals() {
        WhoMentionsIt x = table();
        x.row(1, 1, 3);
        int[] shelves = {-1, 6, 0, 1};
        int[] due = {BAD, BAD, Check.NOTHING_THERE, Check.OTHER_KIND};
        for (int i = 0; i < shelves.length; i++) {
            c.due("judge", x.judge(shelves[i], 0), due[i]);
            c.due("months", x.months(shelves[i], 0, 0), due[i]);
            c.due("mayBe", x.mayBe(shelves[i], 0), due[i]);
            c.due("judge one", x.judge(shelves[i], 2), BAD);
            c.due("months one", x.months(shelves[i], -1, 0), BAD);
            c.due("months what", x.months(shelves[i], 0, 3), BAD);
            c.due("months what", x.months(shelves[i], 0, -1), BAD);
            c.due("mayBe one", x.mayBe(shelves[i], 200), BAD);
            c.due("mayBe word", x.mayBe(shelves[i], 3), BAD);
            c.due("mayBe below", x.mayBe(shelves[i], -1), BAD);
        }
    }

    private static void judge() {
        WhoMentionsIt x = table();
        Check.bytes(x, 0, 0, 1, -1, -1, 0, 0, -1, 0, 0);
        c.due("an empty one counts", x.judge(0, 0), 2);
        x.mend(0, 8, 28);
        c.due("none", x.judge(0, 0), NOT);
        x.mend(0, 8, 27);
        c.due("the first", x.judge(0, 0), 2);
        Check.bytes(x, 0, 0, -1, 5, -1, 0, 0);
        c.due("all ends with what is no WORD", x.judge(0, 0), NOT);
        Check.bytes(x, 0, 0, -1, -2, -1, 0, 0);
        c.due("all ends with what is no WORD", x.judge(0, 0), NOT);
        Check.bytes(x, 0, -1, -1, -1, -1, -1, -1, -1, -1, -1, -1, -1, 0, 0, -1, 0, 0);
        c.due("the twelfth", x.judge(0, 0), 11);
        Check.bytes(x, 0, -1, -1, -1, -1, -1, -1, -1, -1, -1, -1, -1, -1, 0, 0);
        c.due("twelve at most", x.judge(0, 0), NOT);
        Check.bytes(x, 0, 2, 2, 2, 2, 2, 2, 2, 2, 2, 2, 2, 2, 0, 0);
        c.due("each as long as it is", x.judge(0, 0), 0);
        x.mend(1, 4, 9);
        Check.law(x, "v=9?n");
        Check.bytes(x, 0, 0, 0, 0);
        c.due("by one", x.judge(0, 0), NOT);
        c.due("by the other", x.judge(0, 1), 0);
        c.due("empty", x.row(0, 0, 0), 1);
        c.due("empty", x.judge(0, 1), NOT);
    }

    private static void months() {
        WhoMentionsIt x = table();
        Check.bytes(x, 0, 0, -1, 0, 7, 1);
        c.due("NEVER", x.months(0, 0, 0), 6);
        c.due("LEAST BOUND", x.months(0, 0, 1), 10);
        Check.bytes(x, 0, -1, -1, -1, -1, -1, -1, -1, -1, -1, -1, -1, -1, 0, 1, 2);
        c.due("NEVER in twelve", x.months(0, 0, 0), 7);
        c.due("LEAST BOUND of none", x.months(0, 0, 1), 1);
        Check.bytes(x, 0, 0, 0, 0, 0, 0, 0);
        c.due("9 and 5 times 18", x.months(0, 0, 1), NOT);
        x.mend(0, 0, 9);
        Check.bytes(x, 0, 0, 0, 0, 0, 0);
        c.due("9 and 4 times 18", x.months(0, 0, 1), 82);
        Check.law(x, "n*p*11-1");
        Check.bytes(x, 0, 2, 0);
        c.due("98", x.months(0, 0, 1), 99);
        Check.law(x, "n*p*11");
        c.due("99", x.months(0, 0, 1), NOT);
    }

    private static void tooNear() {
        WhoMentionsIt x = table();
        x.mend(0, 8, 9);
        Check.bytes(x, 0);
        c.due("no byte", x.months(0, 0, 2), 0);
        Check.bytes(x, 0, 3, 0);
        c.due("the first ends all", x.months(0, 0, 2), 0);
        Check.bytes(x, 0, -2, 0);
        c.due("the first ends all", x.months(0, 0, 2), 0);
        Check.bytes(x, 0, -1, 0);
        c.due("behind an empty one", x.months(0, 0, 2), 1);
        Check.bytes(x, 0, 1, -1, 0);
        c.due("behind 4", x.months(0, 0, 2), 3);
        Check.bytes(x, 0, 0, -1);
        c.due("MENTIONED anyway", x.months(0, 0, 2), 7);
        x.mend(0, 8, 60);
        Check.law(x, "p");
        x.row(0, 0, 60);
        c.due("sixty WORDS and one", x.months(0, 0, 2), 7);
        Check.law(x, "p=60?99");
        c.due("sixty WORDS and one", x.months(0, 0, 2), 7);
        x.put(0, 59, 5);
        c.due("fifty-nine and one", x.months(0, 0, 2), 0);
    }

    private static void mayBe() {
        WhoMentionsIt x = table();
        Check.bytes(x, 0, 0, 0, -1, 1);
        c.due("3 times 6", x.mayBe(0, 0), 6);
        c.due("it stays", x.of(0, 0), 9);
        c.due("no change", x.count(3), 0);
        c.due("MENTIONED without it", x.mayBe(0, 1), NOT);
        c.due("MENTIONED without it", x.mayBe(0, 102), NOT);
        Check.law(x, "n=9?0;n<3?0;99");
        c.due("falls again", x.mayBe(0, 0), NOT);
        x.mend(1, 0, 1);
        c.due("falls again", x.mayBe(0, 0), 9);
        Check.law(x, "n<3?0;99");
        c.due("two", x.mayBe(0, 0), 2);
        Check.law(x, "99");
        c.due("always", x.mayBe(0, 0), NOT);
    }

    private static void drawn() {
        WhoMentionsIt x = new WhoMentionsIt();
        c.due("nobody", x.drawn(1, 99, 0), 0);
        x.person(10);
        c.due("no WORDS", x.drawn(1, 99, 1), 0);
        c.due("no WORDS", x.drawn(1, 99, 2), NOT);
        c.due("n", x.drawn(1, 0, 0), BAD);
        c.due("n", x.drawn(1, 100, 0), BAD);
        c.due("what", x.drawn(1, 1, 3), BAD);
        c.due("what", x.drawn(1, 1, -1), BAD);
        x.word(9, 11);
        c.due("one of them, one WORD", x.drawn(1, 99, 0), 99);
        c.due("one of them, one WORD", x.drawn(1, 1, 2), 0);
        x.person(20);
        x.person(30);
        x.mend(1, 4, 9);
        x.word(5, 11);
        x.word(2, 21);
        for (int seed = -3; seed < 4; seed++) {
            int mentioned = 0;
            int half = 0;
            int first = NOT;
            int z = seed;
            for (int day = 0; day < 60; day++) {
                z = z * 1103515245 + 12345;
                int a = (z >>> 10) % 3;
                int b = (z >>> 18) % 3;
                Check.bytes(x, 0, a, b);
                int level = x.said(0, (z >>> 4) % 3, 1);
                first = level == 2 && first == NOT ? day : first;
                mentioned += level == 2 ? 1 : 0;
                half += level == 1 ? 1 : 0;
            }
            c.due("MENTIONED", x.drawn(seed, 60, 0), mentioned);
            c.due("HALF", x.drawn(seed, 60, 1), half);
            c.due("first", x.drawn(seed, 60, 2), first);
        }
    }
}
