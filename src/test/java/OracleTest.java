import java.util.Random;

/** Random tables: what the class answers against PlainTable and PlainLaw. The seeds are fixed. */
public final class OracleTest {
    private static final Check c = new Check("OracleTest");
    private static final String LETTERS = "nklpbv0123456789!-(())|&<=>+*/%?;nnbbx ";

    public static void main(String[] args) {
        lawAnswers();
        lawValues();
        for (int seed = 0; seed < 1000; seed++) {
            table(seed);
        }
        for (int seed = 0; seed < 60; seed++) {
            manyKins(seed);
        }
        c.end();
    }

    private static String randomText(Random r, int open, int size) {
        int kind = r.nextInt(size <= 0 ? 2 : 9);
        if (kind == 0) {
            return Integer.toString(r.nextInt(r.nextInt(4) == 0 ? 10000 : 13));
        }
        if (kind == 1) {
            return "" + "nklpbv".charAt(r.nextInt(6));
        }
        if (kind == 2 && open > 0) {
            return (r.nextBoolean() ? "!" : "-") + randomOperand(r, open - 1, size - 1);
        }
        String sign = "" + "|&<=>+-*/%+-*".charAt(r.nextInt(13));
        return randomOperand(r, open, size / 2) + sign + randomOperand(r, open, size / 2);
    }

    private static String randomOperand(Random r, int open, int size) {
        if (size <= 0 || open == 0) {
            return r.nextBoolean() ? "" + "nklpbv".charAt(r.nextInt(6)) : Integer.toString(r.nextInt(20));
        }
        return "(" + randomText(r, open - 1, size) + ")";
    }

    private static final String[] TELLING = {"n-p", "n-p%3*2", "p%2?n+b;-n", "n*3-v-p", "b?9;n-4", "n+b-p*2", "n=0?-v;n+b",
        "p=2?-5;n", "n*p%7-2", "k=p?-3;n", "l-p+b/2", "(p>1)*n-1"};

    private static String randomLaw(Random r) {
        return r.nextInt(3) > 0 ? TELLING[r.nextInt(TELLING.length)] : wildLaw(r);
    }

    private static String wildLaw(Random r) {
        StringBuilder text = new StringBuilder();
        int lines = 1 + r.nextInt(3);
        for (int i = 0; i < lines; i++) {
            text.append(i == 0 ? "" : ";");
            text.append(r.nextInt(3) == 0 ? "" : randomText(r, 5, 2) + "?");
            text.append(randomText(r, 5, 3));
        }
        return text.length() <= 100 ? text.toString() : "n+b";
    }

    private static void lawAnswers() {
        Random r = new Random(1);
        for (int i = 0; i < 4000; i++) {
            StringBuilder text = new StringBuilder(wildLaw(r));
            text.setLength(Math.min(text.length(), 40));
            int changes = r.nextInt(3);
            for (int k = 0; k < changes && text.length() > 0; k++) {
                int at = r.nextInt(text.length());
                char letter = LETTERS.charAt(r.nextInt(LETTERS.length()));
                if (r.nextBoolean()) {
                    text.setCharAt(at, letter);
                } else {
                    text.insert(at, letter);
                }
            }
            c.due("law " + text, Check.law(new WhoMentionsIt(), text.toString()), PlainLaw.answer(text.toString()));
        }
        for (int i = 0; i < 4000; i++) {
            StringBuilder text = new StringBuilder();
            int length = r.nextInt(9);
            for (int k = 0; k < length; k++) {
                text.append(LETTERS.charAt(r.nextInt(LETTERS.length())));
            }
            c.due("law " + text, Check.law(new WhoMentionsIt(), text.toString()), PlainLaw.answer(text.toString()));
        }
        for (int i = 0; i < 500; i++) {
            StringBuilder text = new StringBuilder();
            for (int k = 0; k < 8; k++) {
                text.append("!-(".charAt(r.nextInt(3)));
            }
            text.insert(r.nextInt(9), r.nextBoolean() ? "n+" : "n)*");
            c.due("law " + text, Check.law(new WhoMentionsIt(), text.toString()), PlainLaw.answer(text.toString()));
        }
    }

    private static void lawValues() {
        Random r = new Random(2);
        for (int i = 0; i < 3000; i++) {
            String law = wildLaw(r);
            WhoMentionsIt x = Check.people(100);
            int near = r.nextInt(10);
            int kl = r.nextInt(8) * 10 + 1 + r.nextInt(9);
            x.word(near, kl);
            x.mend(0, 4, r.nextInt(10));
            Check.bytes(x, 0, 0);
            c.due("taken " + law, Check.law(x, law), 1);
            int worth = PlainLaw.worth(law, near, kl / 10, kl % 10, 0, 0, x.of(0, 4));
            c.due("worth of " + law, x.said(0, 0, 0), Math.max(0, worth));
        }
    }

    private static void table(int seed) {
        Random r = new Random(seed);
        WhoMentionsIt x = new WhoMentionsIt();
        int words = 1 + r.nextInt(seed % 5 == 0 ? 16 : 6);
        int kins = 1 + r.nextInt(4);
        for (int i = 0; i < words; i++) {
            x.word(r.nextInt(10), r.nextInt(kins) * 10 + 1 + r.nextInt(4));
        }
        int people = 1 + r.nextInt(4);
        for (int i = 0; i < people; i++) {
            x.person(r.nextInt(4) == 0 ? 0 : r.nextInt(200));
            x.mend(i, 4, r.nextInt(10));
            x.mend(i, 5, r.nextInt(128));
        }
        x.mend(0, 6, r.nextInt(300));
        x.mend(0, 8, 1 + r.nextInt(25));
        x.mend(0, 9, 1 + r.nextInt(30));
        String law = r.nextInt(3) == 0 ? null : randomLaw(r);
        if (law != null) {
            c.due("taken", Check.law(x, law), 1);
        }
        PlainTable plain = new PlainTable(x, law);
        int one = r.nextInt(people);
        randomRow(x, r, 0, 12, -1, words + (r.nextInt(3) == 0 ? 1 : 0));
        randomRow(x, r, 1, words > 6 ? 3 : 5, 0, kins);
        randomRow(x, r, 2, 50, r.nextInt(3) == 0 ? -2 : -1, words);
        randomTalk(x, r, people);
        thought(x, plain, r, one, "seed " + seed);
        readBack(x, plain, r, one, "seed " + seed);
    }

    /** SAY IT SAFELY with as many KINS as there may be. */
    private static void manyKins(int seed) {
        Random r = new Random(seed);
        WhoMentionsIt x = Check.people(100);
        for (int i = 0; i < 7; i++) {
            x.word(r.nextInt(10), r.nextInt(3) * 10 + 1 + r.nextInt(9));
        }
        String law = seed % 2 == 0 ? null : randomLaw(r);
        if (law != null) {
            Check.law(x, law);
        }
        x.row(1, 0, 9);
        for (int i = 0; i < 9; i++) {
            x.put(1, i, r.nextInt(3));
        }
        PlainTable plain = new PlainTable(x, law);
        int x1 = r.nextInt(100);
        for (int k = -1; k < 9; k++) {
            c.due("seed " + seed + " many safely " + x1 + " " + k, x.safely(1, x1, k), plain.safely(1, x1, k));
        }
    }

    private static void randomRow(WhoMentionsIt x, Random r, int shelf, int most, int from, int to) {
        int n = r.nextInt(most + 1);
        x.row(shelf, 0, n);
        for (int i = 0; i < n; i++) {
            x.put(shelf, i, i < 3 ? r.nextInt(to) : from + r.nextInt(to - from));
        }
    }

    private static void randomTalk(WhoMentionsIt x, Random r, int people) {
        int n = r.nextInt(20);
        x.row(3, 1, n);
        for (int i = 0; i < n; i++) {
            x.put(3, i, i % 2 == 0 ? r.nextInt(people) : r.nextInt(8) == 0 ? 3 : r.nextInt(3));
        }
    }

    private static void thought(WhoMentionsIt x, PlainTable plain, Random r, int one, String name) {
        for (int what = 0; what < 6; what++) {
            c.due(name + " said " + what, x.said(0, one, what), plain.said(0, one, what));
        }
        for (int i = 0; i < 4; i++) {
            int ox = 100 * one + r.nextInt(i < 2 ? 15 : 60);
            for (int k = -1; k < 6; k++) {
                c.due(name + " safely " + ox + " " + k, x.safely(1, ox, k), plain.safely(1, ox, k));
            }
            c.due(name + " pad " + ox, x.pad(1, ox), plain.pad(1, ox));
            c.due(name + " bare " + ox, x.bare(ox), plain.bare(ox));
        }
        c.due(name + " dangerous", x.dangerous(one, 0), plain.dangerous(one, 0));
        c.due(name + " dangerous", x.dangerous(one, 1), plain.dangerous(one, 1));
        for (int w = 0; w < x.count(0); w++) {
            c.due(name + " wordFor", x.wordFor(w, one), plain.wordFor(w, one));
            c.due(name + " ask", x.ask(one, w, 0), plain.ask(one, w, 0));
            c.due(name + " ask", x.ask(one, w, 1), plain.ask(one, w, 1));
        }
        c.due(name + " corner", x.corner(one), plain.corner(one));
    }

    private static void readBack(WhoMentionsIt x, PlainTable plain, Random r, int one, String name) {
        c.due(name + " judge", x.judge(2, one), plain.judge(2, one));
        for (int what = 0; what < 3; what++) {
            c.due(name + " months " + what, x.months(2, one, what), plain.months(2, one, what));
        }
        int ow = 100 * one + r.nextInt(x.count(0));
        c.due(name + " mayBe", x.mayBe(2, ow), plain.mayBe(2, ow));
        for (int what = 0; what < 4; what++) {
            c.due(name + " talk " + what, x.talk(3, what), plain.talk(3, what));
        }
        int richer = 0;
        int can = 1;
        for (int o = 0; o < x.count(1); o++) {
            c.due(name + " treaty", x.treaty(o, 0), plain.share(o));
            richer += plain.share(o) > x.of(0, 6) / x.count(1) ? 1 : 0;
            can = plain.share(o) > x.of(o, 3) ? 0 : can;
        }
        c.due(name + " treaty", x.treaty(0, 1), can);
        c.due(name + " treaty", x.treaty(0, 2), richer);
    }
}
