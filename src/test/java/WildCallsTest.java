import java.util.Random;

/** Random calls, with wild numbers among them: nothing throws, and what is refused or only asked changes nothing. */
public final class WildCallsTest {
    private static final Check c = new Check("WildCallsTest");
    private static final int[] WILD = {Integer.MIN_VALUE, Integer.MAX_VALUE, -2, 255, 256, 61, 10000, 100000, -100};
    private static final int CALLS = 43;

    public static void main(String[] args) {
        for (int seed = 0; seed < 300; seed++) {
            run(new Random(seed), seed);
        }
        c.end();
    }

    private static void run(Random r, int seed) {
        WhoMentionsIt x = new WhoMentionsIt();
        WhoMentionsIt twin = new WhoMentionsIt();
        for (int i = 0; i < 512; i++) {
            int which = r.nextInt(CALLS);
            int[] a = {number(r), number(r), number(r), number(r), number(r)};
            long v = r.nextInt(4) == 0 ? r.nextLong() : number(r);
            long before = state(x);
            long answer = 0;
            try {
                answer = call(x, which, a, v);
            } catch (RuntimeException e) {
                c.due("seed " + seed + " call " + which + " threw " + e, 1, 0);
                return;
            }
            c.due("seed " + seed + " call " + which + " again", call(twin, which, a, v), answer);
            if (isRefusal(which, answer) || isQuestion(which)) {
                c.due("seed " + seed + " call " + which + " changed something", state(x), before);
            }
        }
    }

    private static int number(Random r) {
        switch (r.nextInt(8)) {
            case 0: return WILD[r.nextInt(WILD.length)];
            case 1: return r.nextInt(130);
            case 2: return -1;
            default: return r.nextInt(6);
        }
    }

    /** levy() answers NOT where nobody told it, and is a levy all the same; act() empties the TRACE. */
    private static boolean isRefusal(int which, long answer) {
        boolean tells = answer == -1 || answer == -2 || answer == -3 || answer == -5 || (answer <= -11 && answer >= -14);
        return tells && which != 28 && which != 35 && which != 40;
    }

    private static boolean isQuestion(int which) {
        return which == 4 || (which >= 7 && which <= 24) || which == 25 || which == 29
                || which == 36 || which == 40 || which >= 42;
    }

    private static long state(WhoMentionsIt x) {
        long h = 17;
        for (int what = 0; what < 10; what++) {
            for (int n = 0; n < (what < 3 ? 16 : what < 6 ? 7 : 1); n++) {
                h = h * 31 + x.of(n, what);
            }
        }
        for (int i = 0; i < 6; i++) {
            h = h * 31 + x.count(i);
            h = h * 31 + x.led(i);
            h = h * 31 + x.taken(i, 0);
            for (int j = 0; j < 60; j++) {
                h = h * 31 + x.element(i, j);
            }
        }
        for (int i = 0; i < 24; i++) {
            h = h * 31 + x.trace(i);
        }
        return h;
    }

    private static final String LETTERS = "nklpbv+-*/%!()|&<=>?;0123456789";

    private static long call(WhoMentionsIt x, int which, int[] a, long v) {
        int ox = a[0] * 100 + a[1];
        switch (which) {
            case 0: return x.word(a[0], a[1] * 10 + a[2]);
            case 1: return x.words(a[0], a[1], a[2]);
            case 2: return x.person(a[0]);
            case 3: return x.mend(a[0], a[1] + a[3], a[2]);
            case 4: return x.of(a[0], a[1] + a[2]);
            case 5: return x.feed(a[0] >= 0 && a[0] < 6 ? LETTERS.charAt((int) (v & 31) % LETTERS.length()) : a[0]);
            case 6: return x.law();
            case 7: return x.said(a[0], a[1], a[2]);
            case 8: return x.safely(a[0], ox, a[2]);
            case 9: return x.pad(a[0], ox);
            case 10: return x.dangerous(a[0], a[1]);
            case 11: return x.wordFor(a[0], a[1]);
            case 12: return x.bare(ox);
            case 13: return x.sum(a[0]);
            case 14: return x.can(a[0]);
            case 15: return x.firstToGo(a[0]);
            case 16: return x.begin(ox);
            case 17: return x.treaty(a[0], a[1]);
            case 18: return x.talk(a[0], a[1]);
            case 19: return x.ask(a[0], a[1], a[2]);
            case 20: return x.corner(a[0]);
            case 21: return x.judge(a[0], a[1]);
            case 22: return x.months(a[0], a[1], a[2]);
            case 23: return x.mayBe(a[0], ox);
            case 24: return x.drawn(a[0], a[1], a[2]);
            case 25: return x.count(a[0]);
            case 26: return x.utter(a[0], a[1]);
            case 27: return x.day();
            case 28: return x.levy();
            case 29: return x.led(a[0]);
            case 30: return x.image();
            case 31: return x.back();
            case 32: return x.undo();
            case 33: return x.redo();
            case 34: return x.body(a[0]);
            case 35: return x.act(a[0], a[1], a[2]);
            case 36: return x.trace(a[0]);
            case 37: return x.keep(a[0], a[1]);
            case 38: return x.row(a[0], a[1], a[2] * (a[3] & 7));
            case 39: return x.put(a[0], a[1], v);
            case 40: return x.element(a[0], a[1]);
            case 41: return x.shift(a[0], a[1], a[2], a[3], a[4]);
            default: return x.taken(a[0], a[1]);
        }
    }
}
