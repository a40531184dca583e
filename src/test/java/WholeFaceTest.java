import java.lang.reflect.InvocationTargetException;
import java.lang.reflect.Method;
import java.util.HashMap;
import java.util.Map;
import java.util.Random;

/**
 * Random runs of 512 calls over the whole face, each asked of the class and of WholeModel. The seeds are
 * fixed, or 'java WholeFaceTest FROM TO' tells others.
 */
public final class WholeFaceTest {
    private static final Check c = new Check("WholeFaceTest");
    private static final String[] LAWS = {"n+b", "n-p", "n*2-v", "p%2?n+b;-n", "b?9;n-4", "n=0?-v;n+b", "l-p+b/2",
        "(p>1)*n-1", "n*p%7-2", "k=p?-3;n", "n-p%3*2", "v>4&n>3?n*2;n-2", "99", "-99", "n*n+k", "0?n", "9999*9999*n",
        "!n|b?3;-1", "n+", "(n", "n?", "1<2<3", "12345", "((((((n))))))", "(((((((n)))))))", "n;", "", "-l+n*3"};
    private static final int[] WILD = {-100, -2, -1, 7, 8, 16, 60, 61, 99, 100, 999, 9999, 10000,
        Integer.MAX_VALUE, Integer.MIN_VALUE, -2000000000};
    // how often a call comes, against the others
    private static final String[] CALLS = {"word", "word", "words", "person", "mend", "mend", "mend", "mend", "of", "feed",
        "law", "said", "said", "said", "safely", "safely", "safely", "pad", "pad", "dangerous", "wordFor", "bare", "sum",
        "can", "firstToGo", "begin", "treaty", "treaty", "talk", "talk", "ask", "ask", "corner", "judge", "judge",
        "months", "months", "mayBe", "mayBe", "drawn", "drawn", "utter", "utter", "utter", "utter", "day", "levy", "led",
        "led", "image", "back", "undo", "undo", "redo", "body", "body", "act", "act", "trace", "trace", "keep", "row",
        "put", "put", "put", "put", "put", "element", "element", "shift", "shift", "taken", "taken", "count", "count"};
    private static final Map<String, Method> MODEL = new HashMap<>();

    static {
        for (Method m : WholeModel.class.getDeclaredMethods()) {
            if (java.lang.reflect.Modifier.isPublic(m.getModifiers())) {
                MODEL.put(m.getName(), m);
            }
        }
    }

    // what fill() lays there most often
    private static final int TALK = 4, KINS = 5;

    private final Random r;
    private final int seed;
    private final WhoMentionsIt x = new WhoMentionsIt();
    private final WholeModel model = new WholeModel();
    private int calls;

    private WholeFaceTest(int seed) {
        this.seed = seed;
        r = new Random(seed);
    }

    public static void main(String[] args) {
        int from = args.length > 0 ? Integer.parseInt(args[0]) : 0;
        int to = args.length > 1 ? Integer.parseInt(args[1]) : 400;
        for (int seed = from; seed < to; seed++) {
            new WholeFaceTest(seed).run();
        }
        c.due("calls of the face", MODEL.size(), 43);
        c.end();
    }

    private void run() {
        begin();
        while (calls < 512) {
            int kind = r.nextInt(40);
            if (kind == 0) {
                tellLaw();
            } else if (kind == 1 && r.nextInt(4) == 0) {
                changes();
            } else if (kind < 4) {
                fill(r.nextInt(6));
            } else {
                any();
            }
        }
    }

    private void begin() {
        int words = r.nextInt(3) == 0 ? r.nextInt(3) : 2 + r.nextInt(r.nextInt(4) == 0 ? 15 : 7);
        int kins = 1 + r.nextInt(5);
        for (int i = 0; i < words; i++) {
            ask("word", r.nextInt(10), 10 * r.nextInt(kins) + 1 + r.nextInt(r.nextInt(3) == 0 ? 9 : 3));
        }
        int people = r.nextInt(6) == 0 ? r.nextInt(2) : 1 + r.nextInt(6);
        for (int i = 0; i < people; i++) {
            ask("person", r.nextInt(3) == 0 ? r.nextInt(10000) : r.nextInt(200));
        }
        for (int i = 0; i < 6; i++) {
            fill(i);
        }
        if (r.nextInt(2) == 0) {
            tellLaw();
        }
    }

    /** A ROW such as the calls want: of WORDS and -1, of KINS, or by twos one and a SHELF. */
    private void fill(int shelf) {
        int kind = r.nextInt(4) == 0 ? r.nextInt(6) : shelf == KINS ? 3 : shelf == TALK ? 5 : r.nextInt(5);
        int n = kind == 3 ? r.nextInt(10) : kind == 5 ? r.nextInt(16) : r.nextInt(kind == 4 ? 40 : 12);
        if (kind == 0 && r.nextInt(3) == 0) {
            ask("row", shelf, r.nextInt(5), r.nextInt(8));
            return;
        }
        ask("row", shelf, kind == 5 ? 1 : 0, n);
        for (int i = 0; i < n && calls < 500; i++) {
            long v = kind == 5 ? i % 2 == 0 ? person() : r.nextInt(6) : kind == 4 && r.nextInt(4) == 0 ? -1
                    : kind == 3 ? kin() : r.nextInt(Math.max(1, model.words.size()));
            ask("put", shelf, i, r.nextInt(60) == 0 ? r.nextInt(400) - 200 : v);
        }
    }

    private void tellLaw() {
        String text = LAWS[r.nextInt(LAWS.length)];
        for (int i = 0; i < text.length() && calls < 500; i++) {
            ask("feed", text.charAt(i));
        }
        ask("law");
    }

    private int wild(int value) {
        return r.nextInt(25) == 0 ? WILD[r.nextInt(WILD.length)] : value;
    }

    private int person() {
        return wild(r.nextInt(Math.max(1, model.people.size())));
    }

    private int wordNumber() {
        return wild(r.nextInt(Math.max(1, model.words.size())));
    }

    private int shelf() {
        return wild(r.nextInt(6));
    }

    /** Mostly a SHELF that holds a ROW of that sort (-1: a BODY), where there is one. */
    private int shelfWith(int sort) {
        int from = r.nextInt(6);
        for (int i = 0; i < 6 && r.nextInt(12) > 0; i++) {
            if (model.sortOn((from + i) % 6) == sort) {
                return (from + i) % 6;
            }
        }
        return shelf();
    }

    private int what(int last) {
        return wild(r.nextInt(last + 1));
    }

    private int kin() {
        return model.words.isEmpty() ? 0 : model.words.get(r.nextInt(model.words.size()))[1];
    }

    private int near() {
        return r.nextInt(r.nextInt(3) == 0 ? 100 : 25);
    }

    private void any() {
        String call = CALLS[r.nextInt(CALLS.length)];
        switch (call) {
            case "word": ask(call, wild(r.nextInt(10)), wild(r.nextInt(80))); return;
            case "words": words(); return;
            case "person": ask(call, wild(r.nextInt(200))); return;
            case "mend": mend(); return;
            case "of": case "trace": case "element": case "keep": case "taken": asked(call); return;
            case "feed": ask(call, wild("n+b-p*2;?(1".charAt(r.nextInt(11)))); return;
            case "said": ask(call, shelfWith(0), person(), what(5)); return;
            case "safely": ask(call, r.nextInt(3) > 0 ? KINS : shelfWith(0), wild(100 * person() + near()), r.nextInt(9) - 1); return;
            case "pad": ask(call, r.nextInt(3) > 0 ? KINS : shelfWith(0), wild(100 * person() + near())); return;
            case "dangerous": ask(call, person(), what(1)); return;
            case "wordFor": ask(call, wordNumber(), person()); return;
            case "bare": ask(call, wild(100 * person() + r.nextInt(20))); return;
            case "sum": ask(call, wild(r.nextInt(100))); return;
            case "firstToGo": ask(call, what(1)); return;
            case "begin": begun(); return;
            case "treaty": ask(call, r.nextInt(3) > 0 ? 0 : person(), what(2)); return;
            case "talk": ask(call, shelfWith(1), what(3)); return;
            case "ask": ask(call, person(), wordNumber(), what(1)); return;
            case "can": case "corner": ask(call, person()); return;
            case "judge": ask(call, shelfWith(0), person()); return;
            case "months": ask(call, shelfWith(0), person(), what(2)); return;
            case "mayBe": ask(call, shelfWith(0), wild(100 * person() + wordNumber())); return;
            case "drawn": ask(call, r.nextInt(), wild(1 + r.nextInt(99)), what(2)); return;
            case "utter": ask(call, person(), shelfWith(0)); return;
            default: others(call);
        }
    }

    private void others(String call) {
        switch (call) {
            case "led": case "count": ask(call, what(5)); return;
            case "body": ask(call, what(7)); return;
            case "act": act(); return;
            case "row": ask(call, shelf(), wild(r.nextInt(5)), wild(r.nextInt(20))); return;
            case "put": ask(call, shelf(), wild(r.nextInt(10)), r.nextInt(3) == 0 ? r.nextLong() : r.nextInt(20) - 3); return;
            case "shift": shift(); return;
            default: ask(call);
        }
    }

    private void asked(String call) {
        switch (call) {
            case "of": ask(call, wild(r.nextInt(8)), what(9)); return;
            case "trace": ask(call, wild(r.nextInt(10))); return;
            case "element": ask(call, shelf(), wild(r.nextInt(12))); return;
            case "keep": ask(call, shelf(), wild(r.nextInt(9) - 1)); return;
            default: ask("keep", shelf(), wild(r.nextInt(Math.max(1, model.bodies.size()))));
                ask(call, shelfWith(-1), what(7));
        }
    }

    private void words() {
        int shelf = shelfWith(0);
        if (r.nextInt(3) == 0) {
            int n = r.nextInt(10);
            ask("row", shelf, 0, n);
            for (int i = 0; i < n; i++) {
                ask("put", shelf, i, wild(r.nextInt(i % 3 == 0 ? 10 : 8) + (i % 3 == 2 ? 1 : 0)));
            }
        }
        ask("words", shelf, wild(r.nextInt(5)), wild(r.nextInt(4) + 1));
    }

    private void begun() {
        int b = r.nextInt(100);
        ask("begin", wild(100 * (r.nextInt(8) == 0 ? r.nextInt(101) : r.nextInt(b + 1)) + b));
    }

    private void act() {
        ask("act", wild(r.nextInt(Math.max(1, model.bodies.size()))), what(3),
                r.nextBoolean() ? r.nextInt() : r.nextInt(20) - 10);
        for (int i = r.nextInt(4); i > 0; i--) {
            ask("trace", r.nextInt(11));
        }
    }

    private void shift() {
        int shelf = shelf();
        int other = r.nextBoolean() ? shelf : shelf >= 0 && shelf < 6 ? shelfWith(model.sortOn(shelf)) : shelf();
        ask("shift", shelf, wild(r.nextInt(6)), other, wild(r.nextInt(6)), wild(r.nextInt(6)));
        for (int i = r.nextInt(4); i > 0; i--) {
            ask("element", other, r.nextInt(10));
        }
    }

    /** More changes than are kept, and back through them. */
    private void changes() {
        for (int i = r.nextInt(55); i > 0 && calls < 500; i--) {
            mend();
        }
        for (int i = r.nextInt(45); i > 0 && calls < 500; i--) {
            ask("undo");
        }
        for (int i = r.nextInt(45); i > 0 && calls < 500; i--) {
            ask("redo");
        }
    }

    private void mend() {
        int what = what(9);
        int number = what >= 0 && what < 3 ? wordNumber() : what >= 3 && what < 6 ? person() : wild(0);
        int[] most = {10, 8, 10, 300, 10, 128, 300, 30, 40, 30};
        ask("mend", number, what, wild(r.nextInt(most[Math.floorMod(what, 10)])));
    }

    /** One call, asked of both. */
    private void ask(String call, long... values) {
        StringBuilder text = new StringBuilder(call).append('(');
        for (int i = 0; i < values.length; i++) {
            text.append(i == 0 ? "" : ", ").append(values[i]);
        }
        String told = text.append(')').toString();
        calls++;
        if (calls > 512) {
            return;
        }
        c.due("seed " + seed + " call " + calls + ": " + told, Run.answer(x, told), modelled(call, values));
    }

    private long modelled(String call, long... values) {
        Method m = MODEL.get(call);
        Object[] given = new Object[values.length];
        for (int i = 0; i < values.length; i++) {
            given[i] = m.getParameterTypes()[i] == long.class ? (Object) values[i] : (Object) Math.toIntExact(values[i]);
        }
        try {
            return ((Number) m.invoke(model, given)).longValue();
        } catch (InvocationTargetException e) {
            throw new IllegalStateException("the model threw on " + call, e.getCause());
        } catch (IllegalAccessException e) {
            throw new IllegalStateException(call, e);
        }
    }
}
