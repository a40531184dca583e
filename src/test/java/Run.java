import java.lang.reflect.InvocationTargetException;
import java.lang.reflect.Method;
import java.util.HashMap;
import java.util.Map;

/** A new object and at most 512 calls on it, told as text such as "word(3, 12)". */
final class Run {
    static final int BAD = WhoMentionsIt.BAD, NOT = WhoMentionsIt.NOT, FULL = WhoMentionsIt.FULL;
    static final int STATE = WhoMentionsIt.STATE, VOID = WhoMentionsIt.VOID;
    static final int LEAST = Integer.MIN_VALUE, MOST = Integer.MAX_VALUE;

    private static final Map<String, Method> METHODS = new HashMap<>();

    static {
        for (Method m : WhoMentionsIt.class.getDeclaredMethods()) {
            METHODS.put(m.getName(), m);
        }
    }

    final WhoMentionsIt x = new WhoMentionsIt();
    private final Check c;
    private int calls;

    Run(Check c) {
        this.c = c;
    }

    static long answer(WhoMentionsIt x, String call) {
        int open = call.indexOf('(');
        Method m = METHODS.get(call.substring(0, open));
        String inside = call.substring(open + 1, call.length() - 1).trim();
        String[] told = inside.isEmpty() ? new String[0] : inside.split(",");
        Object[] values = new Object[told.length];
        for (int i = 0; i < told.length; i++) {
            long v = Long.parseLong(told[i].trim());
            values[i] = m.getParameterTypes()[i] == long.class ? (Object) v : (Object) Math.toIntExact(v);
        }
        try {
            return ((Number) m.invoke(x, values)).longValue();
        } catch (InvocationTargetException e) {
            throw new IllegalStateException(call + " threw", e.getCause());
        } catch (IllegalAccessException e) {
            throw new IllegalStateException(call, e);
        }
    }

    long ask(String call) {
        count(1);
        return answer(x, call);
    }

    /** What an object answers after its 512th call is free, so no test may rest on it. */
    private void count(int more) {
        calls += more;
        if (calls > 512) {
            c.due("calls on one object", calls, 512);
        }
    }

    Run due(String call, long want) {
        c.due(call, ask(call), want);
        return this;
    }

    /** The answer is due to each of the calls. */
    Run due(long want, String... calls) {
        for (String call : calls) {
            due(call, want);
        }
        return this;
    }

    /** A call that is refused with this answer, and then answers as before what it might have changed. */
    Run refused(String call, long want, String changed) {
        long before = ask(changed);
        due(call, want);
        c.due(changed + " behind " + call, ask(changed), before);
        return this;
    }

    Run make(String... calls) {
        for (String call : calls) {
            ask(call);
        }
        return this;
    }

    Run bytes(int shelf, int... values) {
        count(1 + values.length);
        Check.bytes(x, shelf, values);
        return this;
    }

    Run shorts(int shelf, int... values) {
        count(1 + values.length);
        Check.shorts(x, shelf, values);
        return this;
    }

    /** So many bytes of one value. */
    Run like(int shelf, int many, int value) {
        count(1 + many);
        x.row(shelf, 0, many);
        for (int i = 0; i < many; i++) {
            x.put(shelf, i, value);
        }
        return this;
    }

    Run law(String text) {
        return law(text, 1);
    }

    Run law(String text, int want) {
        count(1 + text.length());
        c.due("law " + text, Check.law(x, text), want);
        return this;
    }
}
