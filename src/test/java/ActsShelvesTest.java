/** Promises 35 to 44: bodies and their acts, shelves, counts. */
public final class ActsShelvesTest {
    private static final int BAD = WhoMentionsIt.BAD, FULL = WhoMentionsIt.FULL;
    private static final Check c = new Check("ActsShelvesTest");

    public static void main(String[] args) {
        body();
        acts();
        traces();
        keepAndTaken();
        rows();
        shift();
        count();
        c.end();
    }

    private static void body() {
        WhoMentionsIt x = new WhoMentionsIt();
        c.due("below", x.body(-1), BAD);
        c.due("above", x.body(8), BAD);
        for (int i = 0; i < 50; i++) {
            c.due("body", x.body(i % 8), i);
        }
        c.due("bad ahead of full", x.body(8), BAD);
        c.due("full", x.body(0), FULL);
        c.due("count", x.count(4), 50);
    }

    private static int due(int kind, int number, int act, int x) {
        ModelBodies.Saying one = ModelBodies.make(kind, number, new ModelBodies.Trace());
        return act == 0 ? one.says(x) : act == 1 ? one.nears(x) : act == 2 ? one.pays(x) : one.tells(x);
    }

    private static void acts() {
        int[] xs = {0, 1, -1, 5, 1000000, Integer.MAX_VALUE, Integer.MIN_VALUE, 0x40000000, -77};
        for (int act = 0; act < 4; act++) {
            WhoMentionsIt x = new WhoMentionsIt();
            for (int i = 0; i < 24; i++) {
                x.body((i * 5 + 3) % 8);
            }
            for (int i = 0; i < 24; i++) {
                for (int v : xs) {
                    c.due("act " + i + " " + act + " " + v, x.act(i, act, v), due((i * 5 + 3) % 8, i, act, v));
                }
            }
        }
    }

    private static void traces() {
        int[][][] due = {
            {{1}, {10, 1}, {11}, {2, 10, 1, 11}},
            {{20, 1}, {10, 20, 1}, {11}, {2, 10, 20, 1, 11}},
            {{1}, {30, 10, 1}, {11}, {2, 30, 10, 1, 11}},
            {{1}, {41, 30, 10, 1}, {40, 11}, {2, 41, 30, 10, 1, 40, 11}},
            {{20, 1}, {10, 20, 1}, {11}, {50, 2, 10, 20, 1, 11}},
            {{1}, {41, 30, 10, 1}, {60, 40, 11, 1}, {61, 2, 41, 30, 10, 1, 60, 40, 11, 1}},
            {{70, 1}, {10, 70, 1}, {11}, {2, 10, 70, 1, 11}},
            {{81, 70, 1}, {80, 10, 81, 70, 1, 11}, {11}, {2, 80, 10, 81, 70, 1, 11, 11}}};
        WhoMentionsIt x = new WhoMentionsIt();
        c.due("none", x.trace(0), BAD);
        for (int kind = 0; kind < 8; kind++) {
            x.body(kind);
            for (int act = 0; act < 4; act++) {
                x.act(kind, act, 3);
                int[] ran = due[kind][act];
                c.due("ran", x.count(5), ran.length);
                for (int i = 0; i < ran.length; i++) {
                    c.due("trace of " + kind + " " + act, x.trace(i), ran[i]);
                }
                c.due("behind it", x.trace(ran.length), BAD);
                c.due("ahead of it", x.trace(-1), BAD);
            }
        }
        int[][] none = {{8, 0}, {-1, 0}, {0, 4}, {0, -1}};
        for (int[] n : none) {
            x.act(0, 0, 0);
            c.due("ran", x.count(5), 1);
            c.due("no such", x.act(n[0], n[1], 7), 0);
            c.due("no TRACE then", x.trace(0), BAD);
            c.due("no TRACE then", x.count(5), 0);
        }
    }

    private static void keepAndTaken() {
        int[] above = {-1, 0, 0, 2, 1, 3, 0, 6};
        WhoMentionsIt x = new WhoMentionsIt();
        for (int kind = 0; kind < 8; kind++) {
            c.due("no such BODY", x.keep(0, kind), BAD);
            x.body(kind);
            c.due("keep", x.keep(1, kind), 1);
            for (int k = 0; k < 8; k++) {
                int at = kind;
                while (at >= 0 && at != k) {
                    at = above[at];
                }
                c.due("taken " + kind + " for " + k, x.taken(1, k), at == k ? kind : Check.OTHER_KIND);
            }
        }
        c.due("below", x.keep(0, -2), BAD);
        c.due("shelf", x.keep(6, 0), BAD);
        c.due("shelf", x.keep(-1, -1), BAD);
        c.due("taken shelf", x.taken(6, 0), BAD);
        c.due("taken shelf", x.taken(-1, 0), BAD);
        c.due("taken kind", x.taken(0, 8), BAD);
        c.due("taken kind", x.taken(0, -1), BAD);
        c.due("nothing", x.taken(0, 0), Check.NOTHING_THERE);
        c.due("laid away", x.keep(1, -1), 1);
        c.due("nothing", x.taken(1, 0), Check.NOTHING_THERE);
        x.row(1, 0, 3);
        c.due("a ROW", x.taken(1, 0), Check.OTHER_KIND);
    }

    private static void rows() {
        long v = 0x123456789ABCDEF0L;
        long[] kept = {(byte) v, (short) v, (int) v, v, 1};
        WhoMentionsIt x = new WhoMentionsIt();
        for (int sort = 0; sort < 5; sort++) {
            c.due("row", x.row(2, sort, 60), 1);
            c.due("0 at first", x.element(2, 59), 0);
            c.due("put", x.put(2, 59, v), 1);
            c.due("lowest bits", x.element(2, 59), kept[sort]);
            c.due("put", x.put(2, 0, -1), 1);
            c.due("lowest bits", x.element(2, 0), sort == 4 ? 1 : -1);
            c.due("put", x.put(2, 0, 1L << 63), 1);
            c.due("lowest bits", x.element(2, 0), sort == 4 ? 1 : sort == 3 ? Long.MIN_VALUE : 0);
            c.due("put", x.put(2, 0, 1), 1);
            c.due("one", x.element(2, 0), 1);
            c.due("put", x.put(2, 0, 0), 1);
            c.due("nought", x.element(2, 0), 0);
            c.due("place", x.put(2, 60, 1), Check.NO_PLACE);
            c.due("place", x.put(2, -1, 1), Check.NO_PLACE);
            c.due("place", x.element(2, 60), Long.MIN_VALUE);
            c.due("place", x.element(2, -1), Long.MIN_VALUE);
        }
        c.due("shelf", x.row(6, 0, 1), BAD);
        c.due("shelf", x.row(-1, 0, -1), BAD);
        c.due("sort", x.row(0, 5, -1), BAD);
        c.due("sort", x.row(0, -1, 1), BAD);
        c.due("above 60", x.row(0, 0, 61), BAD);
        c.due("below 0", x.row(0, 0, -1), Check.BELOW_ZERO);
        c.due("nothing came", x.put(0, 0, 1), Check.NOTHING_THERE);
        c.due("nothing came", x.element(0, 0), Long.MIN_VALUE);
        c.due("shelf", x.put(6, 0, 1), BAD);
        c.due("shelf", x.put(-1, 0, 1), BAD);
        c.due("shelf", x.element(6, 0), Long.MIN_VALUE);
        c.due("empty", x.row(0, 0, 0), 1);
        c.due("empty", x.put(0, 0, 1), Check.NO_PLACE);
        x.body(0);
        x.keep(0, 0);
        c.due("a BODY", x.put(0, 0, 1), Check.OTHER_KIND);
        c.due("a BODY", x.element(0, 0), Long.MIN_VALUE);
        x.row(2, 3, 60);
        x.put(2, 0, 7);
        x.put(2, 59, 7);
        x.row(2, 3, 60);
        c.due("a new ROW", x.element(2, 0) + x.element(2, 59), 0);
    }

    private static void shift() {
        WhoMentionsIt x = new WhoMentionsIt();
        Check.bytes(x, 0, 1, 2, 3, 4, 5);
        Check.bytes(x, 1, 6, 7, 8);
        Check.shorts(x, 2, 9, 9, 9);
        x.body(0);
        x.keep(3, 0);
        c.due("within itself", x.shift(0, 0, 0, 1, 4), 4);
        long[] first = {1, 1, 2, 3, 4};
        for (int i = 0; i < 5; i++) {
            c.due("as they were before", x.element(0, i), first[i]);
        }
        c.due("within itself", x.shift(0, 1, 0, 0, 4), 4);
        long[] second = {1, 2, 3, 4, 4};
        for (int i = 0; i < 5; i++) {
            c.due("as they were before", x.element(0, i), second[i]);
        }
        c.due("to another", x.shift(0, 3, 1, 1, 2), 2);
        c.due("to another", x.element(1, 0) * 100 + x.element(1, 1) * 10 + x.element(1, 2), 644);
        c.due("none", x.shift(0, 5, 1, 3, 0), 0);
        c.due("all onto itself", x.shift(1, 0, 1, 0, 3), 3);
        int[][] noPlace = {{0, 3, 1, 0, 3}, {0, -1, 1, 0, 1}, {0, 0, 1, -1, 1}, {0, 0, 1, 0, -1}, {0, 0, 1, 1, 3},
            {0, 6, 1, 0, 0}, {0, 0, 1, 4, 0}, {0, Integer.MAX_VALUE, 1, 0, 2}, {0, 0, 1, 0, Integer.MAX_VALUE},
            {0, 1, 1, Integer.MAX_VALUE, 1}, {0, 0, 1, 0, Integer.MIN_VALUE}};
        for (int[] n : noPlace) {
            c.due("no place", x.shift(n[0], n[1], n[2], n[3], n[4]), Check.NO_PLACE);
        }
        c.due("shelf", x.shift(6, 0, 0, 0, 1), BAD);
        c.due("shelf", x.shift(4, 0, -1, 0, 1), BAD);
        c.due("nothing", x.shift(4, 0, 0, 0, 1), Check.NOTHING_THERE);
        c.due("nothing", x.shift(3, 0, 4, 0, -1), Check.NOTHING_THERE);
        c.due("a BODY", x.shift(3, 0, 0, 0, -1), Check.OTHER_KIND);
        c.due("a BODY", x.shift(0, 0, 3, 0, 1), Check.OTHER_KIND);
        c.due("unlike sorts", x.shift(0, 0, 2, 0, 1), Check.OTHER_KIND);
        c.due("unchanged", x.element(1, 0) * 100 + x.element(1, 1) * 10 + x.element(1, 2), 644);
    }

    private static void count() {
        WhoMentionsIt x = Check.people(1, 2);
        x.word(0, 1);
        x.feed(7);
        x.mend(0, 6, 1);
        x.body(0);
        x.act(0, 3, 0);
        int[] due = {1, 2, 1, 1, 1, 4};
        for (int what = 0; what < 6; what++) {
            c.due("count " + what, x.count(what), due[what]);
        }
        c.due("below", x.count(-1), BAD);
        c.due("above", x.count(6), BAD);
    }
}
