import java.util.ArrayDeque;
import java.util.ArrayList;
import java.util.Deque;
import java.util.HashMap;
import java.util.List;
import java.util.Map;

/**
 * The whole face once more, state and all, written from the document's words: lists instead of rows, and
 * for each question the plainest way there is. WholeFaceTest asks it and the class the same.
 */
public final class WholeModel {
    private static final int BAD = -1, NOT = -2, FULL = -3, STATE = -5, VOID = -2000000000;
    private static final int[] LEAST = {0, 0, 1, 0, 0, 0, 0, 0, 1, 1};
    private static final int[] MOST = {9, 7, 9, 9999, 9, 127, 9999, 99, 99, 99};

    final List<int[]> words = new ArrayList<>();
    final List<int[]> people = new ArrayList<>();
    private final int[] table = {50, 5, 20, 12};
    private final StringBuilder tape = new StringBuilder();
    private String law;

    // ---- words, people

    public int word(int near, int kl) {
        if (kl < 0 || near < 0 || near > 9 || kl / 10 > 7 || kl % 10 == 0) {
            return BAD;
        }
        if (words.size() == 16) {
            return FULL;
        }
        words.add(new int[] {near, kl / 10, kl % 10});
        return words.size() - 1;
    }

    public int words(int shelf, int i, int n) {
        if (isNoShelf(shelf) || n < 1 || n > 16) {
            return BAD;
        }
        if (shelves[shelf] != null && isNoRow(shelf, 0)) {
            return -12;
        }
        if (shelves[shelf] == null || i < 0) {
            return 0;
        }
        long[] row = shelves[shelf].row;
        int came = 0;
        for (long at = i; came < n && at + 2 < row.length; at += 3) {
            boolean fits = row[(int) at + 1] >= 0 && row[(int) at + 2] >= 0 && row[(int) at + 2] < 10;
            if (!fits || word((int) row[(int) at], (int) (10 * row[(int) at + 1] + row[(int) at + 2])) < 0) {
                break;
            }
            came++;
        }
        return came;
    }

    public int person(int means) {
        if (means < 0 || means > 9999) {
            return BAD;
        }
        if (people.size() == 7) {
            return FULL;
        }
        people.add(new int[] {means, 5, 127});
        return people.size() - 1;
    }

    /** Where a number is kept: the row, and its place in the row; or null. */
    private int[] rowOf(int number, int what) {
        if (number < 0 || what < 0 || what > 9) {
            return null;
        }
        if (what > 5) {
            return number == 0 ? table : null;
        }
        List<int[]> rows = what < 3 ? words : people;
        return number < rows.size() ? rows.get(number) : null;
    }

    private static int placeOf(int what) {
        return what > 5 ? what - 6 : what % 3;
    }

    public int mend(int number, int what, int v) {
        int[] row = rowOf(number, what);
        if (row == null || v < LEAST[what] || v > MOST[what]) {
            return BAD;
        }
        int was = row[placeOf(what)];
        if (was != v) {
            row[placeOf(what)] = v;
            undoable.addLast(new int[] {number, what, was, v});
            if (undoable.size() > 40) {
                undoable.removeFirst();
            }
            redoable.clear();
        }
        return was;
    }

    public int of(int number, int what) {
        int[] row = rowOf(number, what);
        return row == null ? BAD : row[placeOf(what)];
    }

    public int feed(int letter) {
        if (letter < 0 || letter > 255) {
            return BAD;
        }
        if (tape.length() == 120) {
            return FULL;
        }
        tape.append((char) letter);
        return tape.length();
    }

    private static final Map<String, Integer> ANSWERS = new HashMap<>();

    public int law() {
        String text = tape.toString();
        tape.setLength(0);
        int answer = ANSWERS.computeIfAbsent(text, PlainLaw::answer);
        law = answer == 1 ? text : law;
        return answer;
    }

    // ---- sentences in thought

    private static final Map<String, Map<Integer, Integer>> WORTHS = new HashMap<>();

    /** What a WORD gives at a place behind another one (-1: none ahead). */
    private int gives(int word, int place, int ahead, int one) {
        int[] w = words.get(word);
        int b = ahead >= 0 && words.get(ahead)[1] == w[1] ? words.get(ahead)[0] : 0;
        if (law == null) {
            return w[0] + b;
        }
        int v = people.get(one)[1];
        int key = ((((w[0] * 10 + w[1]) * 10 + w[2]) * 100 + place) * 10 + b) * 10 + v;
        return WORTHS.computeIfAbsent(law, l -> new HashMap<>())
                .computeIfAbsent(key, k -> PlainLaw.worth(law, w[0], w[1], w[2], place, b, v));
    }

    private int near(List<Integer> sentence, int one) {
        int[] sums = new int[sentence.size() + 1];
        int greatest = 0;
        for (int i = 0; i < sentence.size(); i++) {
            sums[i + 1] = sums[i] + gives(sentence.get(i), i, i == 0 ? -1 : sentence.get(i - 1), one);
            for (int from = 0; from <= i; from++) {
                greatest = Math.max(greatest, sums[i + 1] - sums[from]);
            }
        }
        return greatest;
    }

    private int level(List<Integer> sentence, int one) {
        int near = near(sentence, one);
        return near >= table[2] ? 2 : near >= table[3] ? 1 : 0;
    }

    private boolean isMentioned(List<Integer> sentence, int one) {
        return level(sentence, one) == 2;
    }

    /** The elements of a ROW up to the first one that is not from .. to, so many at most. */
    private List<Integer> start(int shelf, int most, int from, int to) {
        List<Integer> values = new ArrayList<>();
        for (long v : shelves[shelf].row) {
            if (v < from || v > to || values.size() == most) {
                break;
            }
            values.add((int) v);
        }
        return values;
    }

    private List<Integer> sentence(int shelf) {
        return start(shelf, 10, 0, words.size() - 1);
    }

    private boolean isHeard(int one) {
        for (int other = 0; other < people.size(); other++) {
            if (other != one && (people.get(other)[2] >> one) % 2 == 1) {
                return true;
            }
        }
        return false;
    }

    private int owes(int one, int level, int day) {
        return !isHeard(one) ? 0 : level == 2 ? sumThen(day) : level == 1 ? sumThen(day) / 2 : 0;
    }

    public int said(int shelf, int one, int what) {
        if (isNoShelf(shelf) || isNobody(one) || what < 0 || what > 5) {
            return BAD;
        }
        if (isNoRow(shelf, 0)) {
            return noRow(shelf);
        }
        List<Integer> s = sentence(shelf);
        int owed = owes(one, level(s, one), 0);
        switch (what) {
            case 0: return near(s, one);
            case 1: return level(s, one);
            case 3: return s.size();
            case 4: return owed;
            case 5: return owed > people.get(one)[0] ? 1 : 0;
            default:
        }
        for (int i = 0; i < s.size(); i++) {
            if (isMentioned(s.subList(0, i + 1), one)) {
                return i;
            }
        }
        return NOT;
    }

    private List<Integer> kins;
    private final Map<Integer, Integer> best = new HashMap<>();
    private int most;
    private int speaker;

    private void think(int shelf, int ox) {
        kins = start(shelf, 8, 0, 7);
        most = ox % 100;
        speaker = ox / 100;
        best.clear();
    }

    /** The sum that ends with this WORD, or -1: it comes too NEAR. */
    private int runWith(int word, int place, int ahead, int run) {
        int sum = Math.max(0, run + gives(word, place, ahead, speaker));
        return sum > most ? -1 : sum;
    }

    private static final int NO_WAY = 1000000;

    /** How LONG the rest is at least, from a place on, with the sum that ended right ahead. */
    private int shortest(int place, int ahead, int run) {
        if (place == kins.size()) {
            return 0;
        }
        int key = (place * 100 + ahead + 1) * 100 + run;
        if (!best.containsKey(key)) {
            int least = NO_WAY;
            for (int w = 0; w < words.size(); w++) {
                int sum = words.get(w)[1] == kins.get(place) ? runWith(w, place, ahead, run) : -1;
                least = sum < 0 ? least : Math.min(least, words.get(w)[2] + shortest(place + 1, w, sum));
            }
            best.put(key, least);
        }
        return best.get(key);
    }

    public int safely(int shelf, int ox, int k) {
        if (isNoShelf(shelf) || ox < 0 || isNobody(ox / 100) || k < -1) {
            return BAD;
        }
        if (isNoRow(shelf, 0)) {
            return noRow(shelf);
        }
        think(shelf, ox);
        int all = shortest(0, -1, 0);
        if (all >= NO_WAY || k >= kins.size()) {
            return NOT;
        }
        int ahead = -1;
        int run = 0;
        for (int place = 0; place <= k; place++) {
            int rest = shortest(place, ahead, run);
            for (int w = 0; w < words.size(); w++) {
                int sum = words.get(w)[1] == kins.get(place) ? runWith(w, place, ahead, run) : -1;
                if (sum >= 0 && words.get(w)[2] + shortest(place + 1, w, sum) == rest) {
                    ahead = w;
                    run = sum;
                    break;
                }
            }
        }
        return k < 0 ? all : ahead;
    }

    /** How many must be put in at least, ahead of the KIN at index and behind it. */
    private int fewest(int index, int place, int ahead, int run) {
        if (index == kins.size()) {
            return 0;
        }
        int key = ((index * 100 + place) * 100 + ahead + 1) * 100 + run;
        if (best.containsKey(key)) {
            return best.get(key);
        }
        int least = fewestWithout(index, place, ahead, run);
        for (int w = 0; w < words.size() && index > 0; w++) {
            int kin = words.get(w)[1];
            int sum = kin == kins.get(index) || kin == kins.get(index - 1) ? -1 : runWith(w, place, ahead, run);
            least = sum < 0 ? least : Math.min(least, 1 + fewestWithout(index, place + 1, w, sum));
        }
        best.put(key, least);
        return least;
    }

    private int fewestWithout(int index, int place, int ahead, int run) {
        int least = NO_WAY;
        for (int w = 0; w < words.size(); w++) {
            int sum = words.get(w)[1] == kins.get(index) ? runWith(w, place, ahead, run) : -1;
            least = sum < 0 ? least : Math.min(least, fewest(index + 1, place + 1, w, sum));
        }
        return least;
    }

    public int pad(int shelf, int ox) {
        if (isNoShelf(shelf) || ox < 0 || isNobody(ox / 100)) {
            return BAD;
        }
        if (isNoRow(shelf, 0)) {
            return noRow(shelf);
        }
        think(shelf, ox);
        int fewest = fewest(0, 0, -1, 0);
        return fewest >= NO_WAY ? NOT : fewest;
    }

    public int dangerous(int one, int what) {
        if (isNobody(one) || what < 0 || what > 1) {
            return BAD;
        }
        List<Integer> found = new ArrayList<>();
        for (int pair = 0; pair < 400; pair++) {
            int a = pair / 20;
            int b = pair % 20;
            if (a != b && a < words.size() && b < words.size() && isMentioned(List.of(a, b), one)) {
                found.add(pair);
            }
        }
        return what == 0 ? found.size() : found.isEmpty() ? NOT : found.get(0);
    }

    public int wordFor(int word, int one) {
        if (word < 0 || word >= words.size() || isNobody(one)) {
            return BAD;
        }
        int found = word;
        for (int w = words.size() - 1; w >= 0; w--) {
            boolean like = words.get(w)[1] == words.get(word)[1];
            if (like && (near(List.of(w), one) < near(List.of(found), one)
                    || (near(List.of(w), one) == near(List.of(found), one) && w < found))) {
                found = w;
            }
        }
        return found;
    }

    public int bare(int ox) {
        if (ox < 0 || isNobody(ox / 100)) {
            return BAD;
        }
        int bits = 0;
        for (int kin = 0; kin < 8; kin++) {
            boolean any = false;
            boolean can = false;
            for (int w = 0; w < words.size(); w++) {
                any |= words.get(w)[1] == kin;
                can |= words.get(w)[1] == kin && near(List.of(w), ox / 100) <= ox % 100;
            }
            bits += any && !can ? 1 << kin : 0;
        }
        return bits;
    }

    // ---- waiting, talk

    private int sumThen(int day) {
        int sum = table[0];
        for (int i = 0; i < day; i++) {
            sum = Math.min(9999, sum + table[1]);
        }
        return sum;
    }

    public int sum(int n) {
        return n < 0 || n > 99 ? BAD : sumThen(n);
    }

    public int can(int one) {
        if (isNobody(one)) {
            return BAD;
        }
        int last = NOT;
        for (int day = 0; day <= 999 && table[0] + day * table[1] <= people.get(one)[0]; day++) {
            last = day;
        }
        return last;
    }

    public int firstToGo(int what) {
        if (what < 0 || what > 1) {
            return BAD;
        }
        for (int day = 0; day < 999; day++) {
            for (int one = 0; one < people.size(); one++) {
                if (can(one) == day) {
                    return what == 0 ? one : day;
                }
            }
        }
        return NOT;
    }

    public int begin(int ab) {
        boolean told = ab >= 0 && ab <= 9999 && ab / 100 <= ab % 100;
        return told ? sumThen(ab % 100) - sumThen(ab / 100) : VOID;
    }

    public int treaty(int one, int what) {
        if (isNobody(one) || what < 0 || what > 2 || (what > 0 && one != 0)) {
            return BAD;
        }
        long all = people.stream().mapToLong(p -> p[0]).sum();
        int[] shares = new int[people.size()];
        int left = table[0];
        for (int i = 0; i < shares.length; i++) {
            shares[i] = all == 0 ? 0 : (int) ((long) table[0] * people.get(i)[0] / all);
            left -= shares[i];
        }
        for (int i = 0; left > 0; i = (i + 1) % shares.length) {
            shares[i]++;
            left--;
        }
        int richer = 0;
        int whether = 1;
        for (int i = 0; i < shares.length; i++) {
            richer += shares[i] > table[0] / shares.length ? 1 : 0;
            whether *= shares[i] > people.get(i)[0] ? 0 : 1;
        }
        return what == 0 ? shares[one] : what == 1 ? whether : richer;
    }

    public int talk(int shelf, int what) {
        if (isNoShelf(shelf) || what < 0 || what > 3) {
            return BAD;
        }
        if (isNoRow(shelf, 1)) {
            return noRow(shelf);
        }
        long[] row = shelves[shelf].row;
        int halves = 0;
        for (int day = 0; 2 * day + 1 < row.length; day++) {
            int one = (int) row[2 * day];
            int from = (int) row[2 * day + 1];
            if (isNobody(one) || isNoShelf(from) || isNoRow(from, 0)) {
                break;
            }
            int level = level(sentence(from), one);
            if (level == 2 && isHeard(one)) {
                int[] answers = {day, one, sumThen(day), halves};
                return answers[what];
            }
            halves += level == 1 ? owes(one, 1, day) : 0;
        }
        return what == 3 ? halves : NOT;
    }

    /** All answers to a QUESTION, as 100 times the first WORD and the second one. */
    private List<Integer> answersTo(int word) {
        List<Integer> all = new ArrayList<>();
        int kin = words.get(word)[1];
        for (int a = 0; a < words.size(); a++) {
            for (int b = 0; b < words.size(); b++) {
                if (words.get(a)[1] == kin && words.get(b)[1] != kin) {
                    all.add(100 * a + b);
                }
            }
        }
        return all;
    }

    public int ask(int one, int word, int what) {
        if (isNobody(one) || word < 0 || word >= words.size() || what < 0 || what > 1) {
            return BAD;
        }
        int safest = NOT;
        int safe = 0;
        for (int pair : answersTo(word)) {
            List<Integer> s = List.of(pair / 100, pair % 100);
            safe = isMentioned(s, one) ? safe : 1;
            if (safest == NOT || near(s, one) < near(List.of(safest / 100, safest % 100), one)) {
                safest = pair;
            }
        }
        return what == 0 ? safe : safest;
    }

    public int corner(int one) {
        if (isNobody(one)) {
            return BAD;
        }
        int bits = 0;
        for (int w = 0; w < words.size(); w++) {
            bits += ask(one, w, 0) == 0 ? 1 << w : 0;
        }
        return bits;
    }

    // ---- months, draws

    private List<List<Integer>> monthsOn(int shelf) {
        List<List<Integer>> all = new ArrayList<>();
        all.add(new ArrayList<>());
        for (int v : start(shelf, 60, -1, words.size() - 1)) {
            if (v == -1) {
                all.add(new ArrayList<>());
            } else {
                all.get(all.size() - 1).add(v);
            }
        }
        return all.subList(0, Math.min(12, all.size()));
    }

    public int judge(int shelf, int one) {
        if (isNoShelf(shelf) || isNobody(one)) {
            return BAD;
        }
        if (isNoRow(shelf, 0)) {
            return noRow(shelf);
        }
        List<List<Integer>> all = monthsOn(shelf);
        for (int i = 0; i < all.size(); i++) {
            if (isMentioned(all.get(i), one)) {
                return i;
            }
        }
        return NOT;
    }

    public int months(int shelf, int one, int what) {
        if (isNoShelf(shelf) || isNobody(one) || what < 0 || what > 2) {
            return BAD;
        }
        if (isNoRow(shelf, 0)) {
            return noRow(shelf);
        }
        if (what == 1) {
            return leastBound(shelf, one);
        }
        int never = 0;
        int tooNear = 0;
        boolean none = start(shelf, 1, -1, words.size() - 1).isEmpty();
        for (int w = 0; w < words.size(); w++) {
            List<Integer> first = new ArrayList<>(monthsOn(shelf).get(0));
            first.add(w);
            int word = w;
            never += monthsOn(shelf).stream().anyMatch(s -> s.contains(word)) ? 0 : 1 << w;
            tooNear += !none && isMentioned(first, one) ? 1 << w : 0;
        }
        return what == 0 ? never : tooNear;
    }

    private int leastBound(int shelf, int one) {
        int was = table[2];
        int least = NOT;
        for (table[2] = 1; table[2] <= 99 && least == NOT; table[2]++) {
            least = judge(shelf, one) == NOT ? table[2] : NOT;
        }
        table[2] = was;
        return least;
    }

    public int mayBe(int shelf, int ow) {
        if (isNoShelf(shelf) || ow < 0 || isNobody(ow / 100) || ow % 100 >= words.size()) {
            return BAD;
        }
        if (isNoRow(shelf, 0)) {
            return noRow(shelf);
        }
        int[] word = words.get(ow % 100);
        int was = word[0];
        int greatest = NOT;
        for (int near = 0; near <= 9; near++) {
            word[0] = near;
            greatest = judge(shelf, ow / 100) == NOT ? near : greatest;
        }
        word[0] = was;
        return greatest;
    }

    public int drawn(int seed, int n, int what) {
        if (n < 1 || n > 99 || what < 0 || what > 2) {
            return BAD;
        }
        int[] days = new int[3];
        int first = NOT;
        int z = seed;
        for (int day = 0; day < n && !people.isEmpty() && !words.isEmpty(); day++) {
            z = z * 1103515245 + 12345;
            List<Integer> s = List.of((z >>> 10) % words.size(), (z >>> 18) % words.size());
            int level = level(s, (z >>> 4) % people.size());
            first = level == 2 && first == NOT ? day : first;
            days[level]++;
        }
        return what == 0 ? days[2] : what == 1 ? days[1] : first;
    }

    // ---- in deed

    private int sayings, pence, told, days, now;
    private int who = NOT;
    private int[] image;
    private List<Integer> imageMeans;
    private final Deque<int[]> undoable = new ArrayDeque<>();
    private final Deque<int[]> redoable = new ArrayDeque<>();

    public int utter(int one, int shelf) {
        if (isNobody(one) || isNoShelf(shelf)) {
            return BAD;
        }
        if (isNoRow(shelf, 0)) {
            return noRow(shelf);
        }
        sayings++;
        int level = level(sentence(shelf), one);
        if (who != NOT || level == 0 || !isHeard(one)) {
            return 0;
        }
        int paid = Math.min(people.get(one)[0], level == 2 ? sumThen(now) : sumThen(now) / 2);
        people.get(one)[0] -= paid;
        pence += paid;
        told += level == 2 ? 1 : 0;
        who = level == 2 ? one : NOT;
        return paid;
    }

    public int day() {
        if (now == 999) {
            return STATE;
        }
        days++;
        return ++now;
    }

    public int levy() {
        int had = who;
        who = NOT;
        now = 0;
        return had;
    }

    public int led(int what) {
        int[] all = {sayings, pence, told, days, who, now};
        return what < 0 || what > 5 ? BAD : all[what];
    }

    public int image() {
        image = new int[] {sayings, pence, told, days, who, now};
        imageMeans = people.stream().map(p -> p[0]).toList();
        return sayings;
    }

    public int back() {
        if (image == null) {
            return STATE;
        }
        sayings = image[0];
        pence = image[1];
        told = image[2];
        days = image[3];
        who = image[4];
        now = image[5];
        for (int i = 0; i < imageMeans.size(); i++) {
            people.get(i)[0] = imageMeans.get(i);
        }
        return sayings;
    }

    public int undo() {
        if (undoable.isEmpty()) {
            return STATE;
        }
        int[] change = undoable.removeLast();
        rowOf(change[0], change[1])[placeOf(change[1])] = change[2];
        redoable.addLast(change);
        return undoable.size();
    }

    public int redo() {
        if (redoable.isEmpty()) {
            return STATE;
        }
        int[] change = redoable.removeLast();
        rowOf(change[0], change[1])[placeOf(change[1])] = change[3];
        undoable.addLast(change);
        return redoable.size();
    }

    // ---- acts, shelves

    final List<ModelBodies.Saying> bodies = new ArrayList<>();
    private final ModelBodies.Trace trace = new ModelBodies.Trace();

    /** What a SHELF holds: a body's number, or a ROW of a sort. */
    private static final class Held {
        int body = -1;
        int sort;
        long[] row;
    }

    private final Held[] shelves = new Held[6];

    /** The sort of the ROW on a SHELF, -1 for a BODY, -2 for nothing. */
    int sortOn(int shelf) {
        return shelves[shelf] == null ? -2 : shelves[shelf].row == null ? -1 : shelves[shelf].sort;
    }

    private static boolean isNoShelf(int shelf) {
        return shelf < 0 || shelf > 5;
    }

    private boolean isNobody(int one) {
        return one < 0 || one >= people.size();
    }

    private boolean isNoRow(int shelf, int sort) {
        return shelves[shelf] == null || shelves[shelf].row == null || shelves[shelf].sort != sort;
    }

    /** Why there is no ROW of the sort that is wanted. */
    private int noRow(int shelf) {
        return shelves[shelf] == null ? -11 : -12;
    }

    public int body(int kind) {
        if (kind < 0 || kind > 7) {
            return BAD;
        }
        if (bodies.size() == 50) {
            return FULL;
        }
        bodies.add(ModelBodies.make(kind, bodies.size(), trace));
        return bodies.size() - 1;
    }

    public int act(int body, int act, int x) {
        trace.ran.clear();
        if (body < 0 || body >= bodies.size()) {
            return 0;
        }
        ModelBodies.Saying it = bodies.get(body);
        switch (act) {
            case 0: return it.says(x);
            case 1: return it.nears(x);
            case 2: return it.pays(x);
            case 3: return it.tells(x);
            default: return 0;
        }
    }

    public int trace(int i) {
        return i < 0 || i >= Math.min(24, trace.ran.size()) ? BAD : trace.ran.get(i);
    }

    public int keep(int shelf, int body) {
        if (isNoShelf(shelf) || body < -1 || body >= bodies.size()) {
            return BAD;
        }
        Held held = new Held();
        held.body = body;
        shelves[shelf] = body == -1 ? null : held;
        return 1;
    }

    public int row(int shelf, int sort, int n) {
        if (isNoShelf(shelf) || sort < 0 || sort > 4 || n > 60) {
            return BAD;
        }
        if (n < 0) {
            return -14;
        }
        Held held = new Held();
        held.sort = sort;
        held.row = new long[n];
        shelves[shelf] = held;
        return 1;
    }

    private int refusedAt(int shelf, int i) {
        if (isNoShelf(shelf)) {
            return BAD;
        }
        Held held = shelves[shelf];
        return held == null ? -11 : held.row == null ? -12 : i < 0 || i >= held.row.length ? -13 : 0;
    }

    public int put(int shelf, int i, long v) {
        if (refusedAt(shelf, i) != 0) {
            return refusedAt(shelf, i);
        }
        int sort = shelves[shelf].sort;
        shelves[shelf].row[i] = sort == 0 ? (byte) v : sort == 1 ? (short) v : sort == 2 ? (int) v
                : sort == 3 ? v : v == 0 ? 0 : 1;
        return 1;
    }

    public long element(int shelf, int i) {
        return refusedAt(shelf, i) != 0 ? Long.MIN_VALUE : shelves[shelf].row[i];
    }

    public int shift(int shelf, int i, int other, int j, int n) {
        if (isNoShelf(shelf) || isNoShelf(other)) {
            return BAD;
        }
        Held a = shelves[shelf];
        Held b = shelves[other];
        if (a == null || b == null) {
            return -11;
        }
        if (a.row == null || b.row == null || a.sort != b.sort) {
            return -12;
        }
        if (i < 0 || j < 0 || n < 0 || (long) i + n > a.row.length || (long) j + n > b.row.length) {
            return -13;
        }
        long[] before = a.row.clone();
        for (int k = 0; k < n; k++) {
            b.row[j + k] = before[i + k];
        }
        return n;
    }

    public int taken(int shelf, int k) {
        if (isNoShelf(shelf) || k < 0 || k > 7) {
            return BAD;
        }
        if (shelves[shelf] == null) {
            return -11;
        }
        int body = shelves[shelf].body;
        return body >= 0 && ModelBodies.CLASSES[k].isInstance(bodies.get(body)) ? bodies.get(body).kind : -12;
    }

    public int count(int what) {
        switch (what) {
            case 0: return words.size();
            case 1: return people.size();
            case 2: return tape.length();
            case 3: return undoable.size();
            case 4: return bodies.size();
            case 5: return trace.ran.size();
            default: return BAD;
        }
    }
}
