import java.util.HashMap;
import java.util.Map;

/** THE LAW worked out by trying every split of the text: slow, and unlike the class's own reader. */
final class PlainLaw {
    private final Map<String, Integer> names = new HashMap<>();
    private final Map<String, Integer> known = new HashMap<>();

    /** What a text gives, held within -99 .. 99, or null: it is none. */
    static Integer worth(String text, int n, int k, int l, int p, int b, int v) {
        PlainLaw law = new PlainLaw();
        law.names.put("n", n);
        law.names.put("k", k);
        law.names.put("l", l);
        law.names.put("p", p);
        law.names.put("b", b);
        law.names.put("v", v);
        Integer raw = law.lines(text);
        return raw == null ? null : Integer.valueOf(Math.max(-99, Math.min(99, raw)));
    }

    static boolean isText(String text) {
        return worth(text, 1, 1, 1, 1, 1, 1) != null;
    }

    /** A prefix goes on to a TEXT just when an operand, or nothing, and closing signs end it. */
    private static boolean goesOn(String prefix) {
        StringBuilder closing = new StringBuilder();
        for (int open = 0; open <= 6; open++) {
            if (isText(prefix + closing) || isText(prefix + "n" + closing)) {
                return true;
            }
            closing.append(')');
        }
        return false;
    }

    /** What law() must answer. */
    static int answer(String text) {
        for (int i = 0; i < text.length(); i++) {
            if (!goesOn(text.substring(0, i + 1))) {
                return -100 - i;
            }
        }
        return isText(text) ? 1 : -100 - text.length();
    }

    private Integer lines(String text) {
        Integer answer = 0;
        boolean counted = false;
        for (String line : text.split(";", -1)) {
            int mark = line.indexOf('?');
            Integer first = mark < 0 ? Integer.valueOf(1) : either(line.substring(0, mark), 0);
            Integer value = either(line.substring(mark + 1), 0);
            if (first == null || value == null) {
                return null;
            }
            if (!counted && first != 0) {
                counted = true;
                answer = value;
            }
        }
        return answer;
    }

    private Integer either(String s, int open) {
        return split(s, open, "|", 0);
    }

    /** level 0: |, 1: &, 2: < = >, 3: + -, 4: * / %, 5: an operand. */
    private Integer split(String s, int open, String signs, int level) {
        String key = level + " " + open + " " + s;
        if (known.containsKey(key)) {
            return known.get(key);
        }
        String[] below = {"&", "<=>", "+-", "*/%"};
        Integer answer = level == 4 ? operand(s, open) : split(s, open, below[level], level + 1);
        for (int i = s.length() - 2; i > 0 && answer == null; i--) {
            if (signs.indexOf(s.charAt(i)) < 0) {
                continue;
            }
            String left = s.substring(0, i);
            String right = s.substring(i + 1);
            Integer b = level == 4 ? operand(right, open) : split(right, open, below[level], level + 1);
            Integer a = b == null ? null
                    : level == 2 ? split(left, open, below[level], level + 1) : split(left, open, signs, level);
            answer = a == null ? null : joined(s.charAt(i), a, b);
        }
        known.put(key, answer);
        return answer;
    }

    private static Integer joined(char sign, int a, int b) {
        switch (sign) {
            case '|': return (a != 0) | (b != 0) ? 1 : 0;
            case '&': return (a != 0) & (b != 0) ? 1 : 0;
            case '<': return a < b ? 1 : 0;
            case '=': return a == b ? 1 : 0;
            case '>': return a > b ? 1 : 0;
            case '+': return a + b;
            case '-': return a - b;
            case '*': return a * b;
            case '/': return b == 0 ? 0 : a / b;
            default: return b == 0 ? 0 : a % b;
        }
    }

    private Integer operand(String s, int open) {
        if (s.matches("[0-9]{1,4}")) {
            return Integer.valueOf(s);
        }
        if (names.containsKey(s)) {
            return names.get(s);
        }
        if (open == 6 || s.isEmpty()) {
            return null;
        }
        char first = s.charAt(0);
        if (first == '!' || first == '-') {
            Integer of = operand(s.substring(1), open + 1);
            return of == null ? null : Integer.valueOf(first == '-' ? -of : of == 0 ? 1 : 0);
        }
        boolean held = first == '(' && s.endsWith(")") && s.length() > 2;
        return held ? either(s.substring(1, s.length() - 1), open + 1) : null;
    }
}
