import java.util.ArrayList;
import java.util.HashMap;
import java.util.List;
import java.util.Map;

/** What the document's words ask of a table, worked out by trying all there is; reads it by its face alone. */
final class PlainTable {
    static final int NOT = WhoMentionsIt.NOT;

    private final WhoMentionsIt x;
    private final String law;
    private final Map<String, Integer> gifts = new HashMap<>();
    private int[] nears;

    PlainTable(WhoMentionsIt x, String law) {
        this.x = x;
        this.law = law;
        readNears();
    }

    private void readNears() {
        nears = new int[words()];
        for (int w = 0; w < nears.length; w++) {
            nears[w] = x.of(w, 0);
        }
    }

    private int words() {
        return x.count(0);
    }

    private int kin(int w) {
        return x.of(w, 1);
    }

    private int bound() {
        return x.of(0, 8);
    }

    private int gift(int w, int p, int b, int one) {
        if (law == null) {
            return nears[w] + b;
        }
        int n = nears[w];
        String key = n + " " + w + " " + p + " " + b + " " + x.of(one, 4);
        if (!gifts.containsKey(key)) {
            gifts.put(key, PlainLaw.worth(law, n, kin(w), x.of(w, 2), p, b, x.of(one, 4)));
        }
        return gifts.get(key);
    }

    int near(List<Integer> s, int one) {
        int[] g = new int[s.size()];
        for (int i = 0; i < g.length; i++) {
            boolean like = i > 0 && kin(s.get(i - 1)) == kin(s.get(i));
            g[i] = gift(s.get(i), i, like ? nears[s.get(i - 1)] : 0, one);
        }
        int greatest = 0;
        for (int i = 0; i < g.length; i++) {
            int sum = 0;
            for (int j = i; j < g.length; j++) {
                sum += g[j];
                greatest = Math.max(greatest, sum);
            }
        }
        return greatest;
    }

    private int level(int near) {
        return near >= bound() ? 2 : near >= x.of(0, 9) ? 1 : 0;
    }

    List<Integer> values(int shelf) {
        List<Integer> all = new ArrayList<>();
        for (int i = 0; i < 60 && x.element(shelf, i) != Long.MIN_VALUE; i++) {
            all.add((int) x.element(shelf, i));
        }
        return all;
    }

    List<Integer> sentence(int shelf) {
        List<Integer> s = new ArrayList<>();
        for (int v : values(shelf)) {
            if (v < 0 || v >= words() || s.size() == 10) {
                break;
            }
            s.add(v);
        }
        return s;
    }

    boolean heard(int one) {
        boolean heard = false;
        for (int o = 0; o < x.count(1); o++) {
            heard |= o != one && (x.of(o, 5) & 1 << one) != 0;
        }
        return heard;
    }

    int said(int shelf, int one, int what) {
        List<Integer> s = sentence(shelf);
        int near = near(s, one);
        int level = level(near);
        int owes = !heard(one) || level == 0 ? 0 : level == 2 ? x.of(0, 6) : x.of(0, 6) / 2;
        int behind = NOT;
        for (int i = s.size(); i >= 1; i--) {
            behind = near(s.subList(0, i), one) >= bound() ? i - 1 : behind;
        }
        int[] all = {near, level, behind, s.size(), owes, owes > x.of(one, 3) ? 1 : 0};
        return all[what];
    }

    private List<Integer> kins(int shelf) {
        List<Integer> kins = new ArrayList<>();
        for (int v : values(shelf)) {
            if (v < 0 || v > 7 || kins.size() == 8) {
                break;
            }
            kins.add(v);
        }
        return kins;
    }

    /** The shortest way, first by numbers, or null. */
    private List<Integer> shortest;
    private int shortestLong;
    private int fewest;

    int safely(int shelf, int ox, int k) {
        shortest = null;
        trySafely(kins(shelf), new ArrayList<>(), 0, ox);
        if (shortest == null || k >= shortest.size()) {
            return NOT;
        }
        return k < 0 ? shortestLong : shortest.get(k);
    }

    private void trySafely(List<Integer> kins, List<Integer> s, int size, int ox) {
        if (near(s, ox / 100) > ox % 100) {
            return;
        }
        if (s.size() == kins.size()) {
            if (shortest == null || size < shortestLong) {
                shortest = new ArrayList<>(s);
                shortestLong = size;
            }
            return;
        }
        for (int w = 0; w < words(); w++) {
            if (kin(w) == kins.get(s.size())) {
                s.add(w);
                trySafely(kins, s, size + x.of(w, 2), ox);
                s.remove(s.size() - 1);
            }
        }
    }

    int pad(int shelf, int ox) {
        fewest = Integer.MAX_VALUE;
        tryPad(kins(shelf), 0, 0, new ArrayList<>(), ox);
        return fewest == Integer.MAX_VALUE ? NOT : fewest;
    }

    private void tryPad(List<Integer> kins, int index, int put, List<Integer> s, int ox) {
        if (put >= fewest || near(s, ox / 100) > ox % 100) {
            return;
        }
        if (index == kins.size()) {
            fewest = put;
            return;
        }
        for (int between = -1; between < words(); between++) {
            if (between >= 0 && (index == 0 || kin(between) == kins.get(index) || kin(between) == kins.get(index - 1))) {
                continue;
            }
            for (int w = 0; w < words(); w++) {
                if (kin(w) == kins.get(index)) {
                    List<Integer> longer = new ArrayList<>(s);
                    if (between >= 0) {
                        longer.add(between);
                    }
                    longer.add(w);
                    tryPad(kins, index + 1, put + (between >= 0 ? 1 : 0), longer, ox);
                }
            }
        }
    }

    int dangerous(int one, int what) {
        int pairs = 0;
        int first = NOT;
        for (int a = 0; a < words(); a++) {
            for (int b = 0; b < words(); b++) {
                if (a != b && near(List.of(a, b), one) >= bound()) {
                    pairs++;
                    first = first == NOT ? 20 * a + b : first;
                }
            }
        }
        return what == 0 ? pairs : first;
    }

    int wordFor(int word, int one) {
        int best = -1;
        for (int w = words() - 1; w >= 0; w--) {
            if (kin(w) == kin(word) && (best < 0 || near(List.of(w), one) <= near(List.of(best), one))) {
                best = w;
            }
        }
        return best;
    }

    int bare(int ox) {
        int bits = 0;
        for (int kin = 0; kin < 8; kin++) {
            int of = 0;
            int nearer = 0;
            for (int w = 0; w < words(); w++) {
                if (kin(w) == kin) {
                    of++;
                    nearer += near(List.of(w), ox / 100) > ox % 100 ? 1 : 0;
                }
            }
            bits |= of > 0 && of == nearer ? 1 << kin : 0;
        }
        return bits;
    }

    int ask(int one, int word, int what) {
        int safest = NOT;
        int least = Integer.MAX_VALUE;
        for (int a = 0; a < words(); a++) {
            for (int b = 0; b < words(); b++) {
                if (kin(a) == kin(word) && kin(b) != kin(word) && near(List.of(a, b), one) < least) {
                    least = near(List.of(a, b), one);
                    safest = 100 * a + b;
                }
            }
        }
        return what == 1 ? safest : least < bound() ? 1 : 0;
    }

    int corner(int one) {
        int bits = 0;
        for (int w = 0; w < words(); w++) {
            bits |= ask(one, w, 0) == 0 ? 1 << w : 0;
        }
        return bits;
    }

    List<List<Integer>> monthsOf(int shelf) {
        List<List<Integer>> all = new ArrayList<>();
        List<Integer> s = new ArrayList<>();
        for (int v : values(shelf)) {
            if (v < -1 || v >= words()) {
                break;
            }
            if (v == -1) {
                all.add(s);
                s = new ArrayList<>();
            } else {
                s.add(v);
            }
        }
        all.add(s);
        return all.size() > 12 ? all.subList(0, 12) : all;
    }

    int judge(int shelf, int one) {
        List<List<Integer>> all = monthsOf(shelf);
        for (int i = 0; i < all.size(); i++) {
            if (near(all.get(i), one) >= bound()) {
                return i;
            }
        }
        return NOT;
    }

    int months(int shelf, int one, int what) {
        int never = (1 << words()) - 1;
        int greatest = 0;
        for (List<Integer> s : monthsOf(shelf)) {
            for (int w : s) {
                never &= ~(1 << w);
            }
            greatest = Math.max(greatest, near(s, one));
        }
        List<Integer> row = values(shelf);
        int tooNear = 0;
        for (int w = 0; w < words() && !row.isEmpty() && row.get(0) >= -1 && row.get(0) < words(); w++) {
            List<Integer> first = new ArrayList<>(monthsOf(shelf).get(0));
            first.add(w);
            tooNear |= near(first, one) >= bound() ? 1 << w : 0;
        }
        return what == 0 ? never : what == 2 ? tooNear : greatest >= 99 ? NOT : greatest + 1;
    }

    int mayBe(int shelf, int ow) {
        int greatest = NOT;
        for (int near = 0; near < 10; near++) {
            nears[ow % 100] = near;
            greatest = judge(shelf, ow / 100) == NOT ? near : greatest;
        }
        readNears();
        return greatest;
    }

    int talk(int shelf, int what) {
        List<Integer> row = values(shelf);
        int halves = 0;
        for (int day = 0; 2 * day + 1 < row.size(); day++) {
            int one = row.get(2 * day);
            int from = row.get(2 * day + 1);
            if (one < 0 || one >= x.count(1) || x.judge(from, one) == -1 || x.judge(from, one) < -10) {
                break;
            }
            int level = level(near(sentence(from), one));
            int sum = Math.min(9999, x.of(0, 6) + day * x.of(0, 7));
            if (level == 2 && heard(one)) {
                return what == 0 ? day : what == 1 ? one : what == 2 ? sum : halves;
            }
            halves += level == 1 && heard(one) ? sum / 2 : 0;
        }
        return what == 3 ? halves : NOT;
    }

    int share(int one) {
        int people = x.count(1);
        int sum = x.of(0, 6);
        int all = 0;
        for (int o = 0; o < people; o++) {
            all += x.of(o, 3);
        }
        int[] shares = new int[people];
        int left = sum;
        for (int o = 0; o < people; o++) {
            shares[o] = all == 0 ? 0 : (int) ((long) sum * x.of(o, 3) / all);
            left -= shares[o];
        }
        for (int i = 0; left > 0; i++, left--) {
            shares[i % people]++;
        }
        return shares[one];
    }
}
