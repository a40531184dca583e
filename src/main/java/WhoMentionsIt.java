/**
 * Whoever mentions it pays it: a sum lies on the table and goes to the first who refers to it.
 * The document tells the calls as promises 1 to 44; the public methods stand in its order.
 */
public final class WhoMentionsIt {
    public static final int BAD = -1, NOT = -2, FULL = -3, STATE = -5, VOID = -2000000000;

    private static final int NOTHING_THERE = -11, OTHER_KIND = -12, NO_PLACE = -13, BELOW_ZERO = -14;
    private static final int SHELVES = 6;
    private static final int FOR_EVER = 999;
    private static final int LAST_DAY = 999;
    private static final int MOST_MONTHS = 12;
    // Long.MIN_VALUE, which isn't among the names of the library that LANGUAGE.md lists
    private static final long NO_ELEMENT = 1L << 63;

    private final Numbers numbers;
    private final Changes changes;
    private final LawText tape;
    private final Law rule;
    private final Speech speech;
    private final Care care;
    private final Deeds deeds;
    private final Bodies bodies;
    private final Shelf[] shelves;

    public WhoMentionsIt() {
        numbers = new Numbers();
        changes = new Changes(numbers);
        tape = new LawText();
        rule = new Law();
        speech = new Speech(numbers, rule);
        care = new Care(numbers, speech);
        deeds = new Deeds(numbers);
        bodies = new Bodies();
        shelves = new Shelf[SHELVES];
        for (int i = 0; i < SHELVES; i++) {
            shelves[i] = new Shelf();
        }
    }

    // ---- words, people

    public int word(int near, int kl) {
        if (kl < 0 || !numbers.mayBeWord(near, kl / 10, kl % 10)) {
            return BAD;
        }
        return numbers.addWord(near, kl / 10, kl % 10);
    }

    public int words(int shelf, int i, int n) {
        if (!isShelf(shelf) || n < 1 || n > Numbers.MOST_WORDS) {
            return BAD;
        }
        Shelf from = shelves[shelf];
        if (from.holds == Shelf.NOTHING) {
            return 0;
        }
        if (!from.isRowOf(Shelf.BYTES)) {
            return OTHER_KIND;
        }
        return i < 0 ? 0 : takeWords(from, i, n);
    }

    private int takeWords(Shelf from, int start, int n) {
        int came = 0;
        int at = start;
        for (int k = 0; k < n; k++) {
            if (at > from.length - 3) {
                return came;
            }
            int near = from.number(at);
            int kin = from.number(at + 1);
            int size = from.number(at + 2);
            if (!numbers.mayBeWord(near, kin, size) || numbers.addWord(near, kin, size) < 0) {
                return came;
            }
            came++;
            at += 3;
        }
        return came;
    }

    public int person(int means) {
        return numbers.allows(Numbers.MEANS, means) ? numbers.addPerson(means) : BAD;
    }

    public int mend(int number, int what, int v) {
        if (!numbers.has(number, what) || !numbers.allows(what, v)) {
            return BAD;
        }
        int was = numbers.held[what][number];
        changes.make(number, what, v);
        return was;
    }

    public int of(int number, int what) {
        return numbers.has(number, what) ? numbers.held[what][number] : BAD;
    }

    public int feed(int letter) {
        return letter < 0 || letter > 255 ? BAD : tape.append(letter);
    }

    public int law() {
        int fault = tape.read();
        if (fault == LawText.FAULTLESS) {
            rule.become(tape.code, tape.size);
        }
        tape.length = 0;
        return fault == LawText.FAULTLESS ? 1 : -100 - fault;
    }

    // ---- sentences in thought

    public int said(int shelf, int one, int what) {
        if (!isShelf(shelf) || !numbers.isPerson(one) || what < 0 || what > 5) {
            return BAD;
        }
        int refusal = shelves[shelf].refusal(Shelf.BYTES);
        if (refusal != 0) {
            return refusal;
        }
        speech.speakerIs(one);
        speech.readSentence(shelves[shelf]);
        int near = speech.nearness();
        int level = numbers.level(near);
        int owed = numbers.owed(one, level, 0);
        switch (what) {
            case 0:
                return near;
            case 1:
                return level;
            case 2:
                return speech.placeBehindWhich(numbers.bound());
            case 3:
                return speech.length;
            case 4:
                return owed;
            default:
                return owed > numbers.held[Numbers.MEANS][one] ? 1 : 0;
        }
    }

    public int safely(int shelf, int ox, int k) {
        if (!isShelf(shelf) || !isPersonInFront(ox) || k < -1) {
            return BAD;
        }
        int refusal = shelves[shelf].refusal(Shelf.BYTES);
        if (refusal != 0) {
            return refusal;
        }
        speech.speakerIs(ox / 100);
        care.readKins(shelves[shelf], ox % 100);
        care.layOut();
        return k < 0 ? care.shortestLength() : care.shortestWord(k);
    }

    public int pad(int shelf, int ox) {
        if (!isShelf(shelf) || !isPersonInFront(ox)) {
            return BAD;
        }
        int refusal = shelves[shelf].refusal(Shelf.BYTES);
        if (refusal != 0) {
            return refusal;
        }
        speech.speakerIs(ox / 100);
        care.readKins(shelves[shelf], ox % 100);
        return care.fewestPutIn();
    }

    public int dangerous(int one, int what) {
        if (!numbers.isPerson(one) || what < 0 || what > 1) {
            return BAD;
        }
        speech.speakerIs(one);
        int pairs = 0;
        int first = NOT;
        for (int a = 0; a < numbers.words; a++) {
            for (int b = 0; b < numbers.words; b++) {
                if (a != b && speech.pairNearness(a, b) >= numbers.bound()) {
                    first = pairs == 0 ? 20 * a + b : first;
                    pairs++;
                }
            }
        }
        return what == 0 ? pairs : first;
    }

    public int wordFor(int word, int one) {
        if (!numbers.isWord(word) || !numbers.isPerson(one)) {
            return BAD;
        }
        speech.speakerIs(one);
        int best = word;
        // one more, so that the first of like ones is found, be it the WORD itself or not
        int least = speech.aloneNearness(word) + 1;
        for (int w = 0; w < numbers.words; w++) {
            if (numbers.kin(w) == numbers.kin(word) && speech.aloneNearness(w) < least) {
                least = speech.aloneNearness(w);
                best = w;
            }
        }
        return best;
    }

    public int bare(int ox) {
        if (!isPersonInFront(ox)) {
            return BAD;
        }
        speech.speakerIs(ox / 100);
        int spokenOf = 0;
        int sayable = 0;
        for (int w = 0; w < numbers.words; w++) {
            int bit = 1 << numbers.kin(w);
            spokenOf |= bit;
            if (speech.aloneNearness(w) <= ox % 100) {
                sayable |= bit;
            }
        }
        return spokenOf & ~sayable;
    }

    // ---- waiting, talk

    public int sum(int n) {
        return n < 0 || n > 99 ? BAD : numbers.sumOn(n);
    }

    public int can(int one) {
        return numbers.isPerson(one) ? lastDayOf(one) : BAD;
    }

    private int lastDayOf(int one) {
        int spare = numbers.held[Numbers.MEANS][one] - numbers.held[Numbers.SUM][0];
        int grows = numbers.held[Numbers.GROWS][0];
        if (spare < 0) {
            return NOT;
        }
        return grows == 0 ? FOR_EVER : Math.min(FOR_EVER, spare / grows);
    }

    public int firstToGo(int what) {
        if (what < 0 || what > 1) {
            return BAD;
        }
        int who = NOT;
        int when = FOR_EVER;
        for (int one = 0; one < numbers.people; one++) {
            int last = lastDayOf(one);
            if (last >= 0 && last < when) {
                when = last;
                who = one;
            }
        }
        return what == 0 || who == NOT ? who : when;
    }

    public int begin(int ab) {
        if (ab < 0 || ab > 9999 || ab / 100 > ab % 100) {
            return VOID;
        }
        return numbers.sumOn(ab % 100) - numbers.sumOn(ab / 100);
    }

    public int treaty(int one, int what) {
        if (!numbers.isPerson(one) || what < 0 || what > 2 || (what > 0 && one != 0)) {
            return BAD;
        }
        int even = numbers.people == 0 ? 0 : numbers.held[Numbers.SUM][0] / numbers.people;
        int ruined = 0;
        int richer = 0;
        for (int other = 0; other < numbers.people; other++) {
            int share = numbers.shareOf(other);
            ruined += share > numbers.held[Numbers.MEANS][other] ? 1 : 0;
            richer += share > even ? 1 : 0;
        }
        if (what == 0) {
            return numbers.shareOf(one);
        }
        return what == 2 ? richer : ruined == 0 ? 1 : 0;
    }

    public int talk(int shelf, int what) {
        if (!isShelf(shelf) || what < 0 || what > 3) {
            return BAD;
        }
        Shelf from = shelves[shelf];
        int refusal = from.refusal(Shelf.SHORTS);
        if (refusal != 0) {
            return refusal;
        }
        int halves = 0;
        for (int day = 0; day < from.length / 2; day++) {
            int one = from.number(2 * day);
            int level = levelOfSaying(one, from.number(2 * day + 1));
            if (level < 0) {
                break;
            }
            if (level == Numbers.MENTIONED && numbers.isHeard(one)) {
                return what == 0 ? day : what == 1 ? one : what == 2 ? numbers.sumOn(day) : halves;
            }
            halves += level == Numbers.HALF_SAID ? numbers.owed(one, level, day) : 0;
        }
        return what == 3 ? halves : NOT;
    }

    private int levelOfSaying(int one, int shelf) {
        if (!numbers.isPerson(one) || !isShelf(shelf) || !shelves[shelf].isRowOf(Shelf.BYTES)) {
            return NOT;
        }
        speech.speakerIs(one);
        speech.readSentence(shelves[shelf]);
        return numbers.level(speech.nearness());
    }

    public int ask(int one, int word, int what) {
        if (!numbers.isPerson(one) || !numbers.isWord(word) || what < 0 || what > 1) {
            return BAD;
        }
        speech.speakerIs(one);
        int safest = speech.safestAnswer(numbers.kin(word));
        return what == 1 ? safest : isSafeAnswer(safest) ? 1 : 0;
    }

    private boolean isSafeAnswer(int pair) {
        return pair >= 0 && speech.pairNearness(pair / 100, pair % 100) < numbers.bound();
    }

    public int corner(int one) {
        if (!numbers.isPerson(one)) {
            return BAD;
        }
        speech.speakerIs(one);
        int cornered = 0;
        for (int kin = 0; kin <= Numbers.LAST_KIN; kin++) {
            int asking = numbers.wordsOfKin(kin);
            if (asking != 0 && !isSafeAnswer(speech.safestAnswer(kin))) {
                cornered |= asking;
            }
        }
        return cornered;
    }

    // ---- months, draws

    public int judge(int shelf, int one) {
        if (!isShelf(shelf) || !numbers.isPerson(one)) {
            return BAD;
        }
        int refusal = shelves[shelf].refusal(Shelf.BYTES);
        return refusal != 0 ? refusal : firstMentioned(shelves[shelf], one);
    }

    private int firstMentioned(Shelf from, int one) {
        speech.speakerIs(one);
        int at = 0;
        for (int month = 0; month < MOST_MONTHS && at >= 0; month++) {
            at = speech.readMonth(from, at);
            if (speech.nearness() >= numbers.bound()) {
                return month;
            }
        }
        return NOT;
    }

    public int months(int shelf, int one, int what) {
        if (!isShelf(shelf) || !numbers.isPerson(one) || what < 0 || what > 2) {
            return BAD;
        }
        Shelf from = shelves[shelf];
        int refusal = from.refusal(Shelf.BYTES);
        if (refusal != 0) {
            return refusal;
        }
        speech.speakerIs(one);
        return what == 0 ? neverSaid(from) : what == 1 ? leastBound(from) : tooNear(from);
    }

    private int neverSaid(Shelf from) {
        int never = (1 << numbers.words) - 1;
        int at = 0;
        for (int month = 0; month < MOST_MONTHS && at >= 0; month++) {
            at = speech.readMonth(from, at);
            never &= ~speech.wordBits();
        }
        return never;
    }

    private int leastBound(Shelf from) {
        int greatest = 0;
        int at = 0;
        for (int month = 0; month < MOST_MONTHS && at >= 0; month++) {
            at = speech.readMonth(from, at);
            greatest = Math.max(greatest, speech.nearness());
        }
        return greatest + 1 > Numbers.MOST[Numbers.BOUND] ? NOT : greatest + 1;
    }

    private int tooNear(Shelf from) {
        if (from.length == 0 || !speech.goesOn(from.number(0))) {
            return 0;
        }
        speech.readMonth(from, 0);
        int before = speech.nearness();
        int bits = 0;
        for (int w = 0; w < numbers.words; w++) {
            bits |= Math.max(before, speech.runBehind(w)) >= numbers.bound() ? 1 << w : 0;
        }
        return bits;
    }

    public int mayBe(int shelf, int ow) {
        if (!isShelf(shelf) || !isPersonInFront(ow) || !numbers.isWord(ow % 100)) {
            return BAD;
        }
        int refusal = shelves[shelf].refusal(Shelf.BYTES);
        if (refusal != 0) {
            return refusal;
        }
        int[] nears = numbers.held[Numbers.NEAR];
        int word = ow % 100;
        int was = nears[word];
        int greatest = NOT;
        // a law may fall as a NEAR rises, so each NEAR is tried
        for (int near = Numbers.MOST[Numbers.NEAR]; near >= 0 && greatest == NOT; near--) {
            nears[word] = near;
            greatest = firstMentioned(shelves[shelf], ow / 100) == NOT ? near : NOT;
        }
        nears[word] = was;
        return greatest;
    }

    public int drawn(int seed, int n, int what) {
        if (n < 1 || n > 99 || what < 0 || what > 2) {
            return BAD;
        }
        int mentioned = 0;
        int halfSaid = 0;
        int first = NOT;
        int z = seed;
        for (int day = 0; day < n && numbers.people > 0 && numbers.words > 0; day++) {
            z = z * 1103515245 + 12345;
            speech.speakerIs((z >>> 4) % numbers.people);
            int level = numbers.level(
                    speech.pairNearness((z >>> 10) % numbers.words, (z >>> 18) % numbers.words));
            if (level == Numbers.MENTIONED) {
                first = mentioned == 0 ? day : first;
                mentioned++;
            }
            halfSaid += level == Numbers.HALF_SAID ? 1 : 0;
        }
        return what == 0 ? mentioned : what == 1 ? halfSaid : first;
    }

    // ---- in deed

    public int utter(int one, int shelf) {
        if (!numbers.isPerson(one) || !isShelf(shelf)) {
            return BAD;
        }
        int refusal = shelves[shelf].refusal(Shelf.BYTES);
        return refusal != 0 ? refusal : deeds.saying(one, levelOfSaying(one, shelf));
    }

    public int day() {
        return deeds.led[Deeds.NOW] >= LAST_DAY ? STATE : deeds.passDay();
    }

    public int levy() {
        return deeds.startLevy();
    }

    public int led(int what) {
        return what < 0 || what > Deeds.NOW ? BAD : deeds.led[what];
    }

    public int image() {
        deeds.keepImage();
        return deeds.led[Deeds.SAYINGS];
    }

    public int back() {
        if (!deeds.hasImage) {
            return STATE;
        }
        deeds.layBack();
        return deeds.led[Deeds.SAYINGS];
    }

    public int undo() {
        return changes.done == 0 ? STATE : changes.takeBack();
    }

    public int redo() {
        return changes.undone == 0 ? STATE : changes.doAgain();
    }

    // ---- acts, shelves

    public int body(int kind) {
        return Bodies.isKind(kind) ? bodies.add(kind) : BAD;
    }

    public int act(int body, int act, int x) {
        return bodies.start(body, act, x);
    }

    public int trace(int i) {
        return bodies.hasTrace(i) ? bodies.traced[i] : BAD;
    }

    public int keep(int shelf, int body) {
        if (!isShelf(shelf) || (body != -1 && !bodies.has(body))) {
            return BAD;
        }
        if (body == -1) {
            shelves[shelf].empty();
        } else {
            shelves[shelf].holdBody(body);
        }
        return 1;
    }

    public int row(int shelf, int sort, int n) {
        if (!isShelf(shelf) || sort < Shelf.BYTES || sort > Shelf.BOOLEANS || n > Shelf.ROOM) {
            return BAD;
        }
        if (n < 0) {
            return BELOW_ZERO;
        }
        shelves[shelf].holdRow(sort, n);
        return 1;
    }

    public int put(int shelf, int i, long v) {
        if (!isShelf(shelf)) {
            return BAD;
        }
        int refusal = shelves[shelf].refusalAt(i);
        if (refusal == 0) {
            shelves[shelf].set(i, v);
        }
        return refusal == 0 ? 1 : refusal;
    }

    public long element(int shelf, int i) {
        if (!isShelf(shelf) || shelves[shelf].refusalAt(i) != 0) {
            return NO_ELEMENT;
        }
        return shelves[shelf].cells[i];
    }

    public int shift(int shelf, int i, int other, int j, int n) {
        if (!isShelf(shelf) || !isShelf(other)) {
            return BAD;
        }
        Shelf from = shelves[shelf];
        Shelf to = shelves[other];
        if (from.holds == Shelf.NOTHING || to.holds == Shelf.NOTHING) {
            return NOTHING_THERE;
        }
        if (from.holds != Shelf.ROW || to.holds != Shelf.ROW || from.sort != to.sort) {
            return OTHER_KIND;
        }
        if (!from.hasPlaces(i, n) || !to.hasPlaces(j, n)) {
            return NO_PLACE;
        }
        System.arraycopy(from.cells, i, to.cells, j, n);
        return n;
    }

    public int taken(int shelf, int k) {
        if (!isShelf(shelf) || !Bodies.isKind(k)) {
            return BAD;
        }
        if (shelves[shelf].holds == Shelf.NOTHING) {
            return NOTHING_THERE;
        }
        if (shelves[shelf].holds != Shelf.BODY) {
            return OTHER_KIND;
        }
        int kind = bodies.kindOf(shelves[shelf].body);
        return Bodies.isUnder(kind, k) ? kind : OTHER_KIND;
    }

    public int count(int what) {
        switch (what) {
            case 0:
                return numbers.words;
            case 1:
                return numbers.people;
            case 2:
                return tape.length;
            case 3:
                return changes.done;
            case 4:
                return bodies.many;
            case 5:
                return bodies.ran;
            default:
                return BAD;
        }
    }

    private static boolean isShelf(int shelf) {
        return shelf >= 0 && shelf < SHELVES;
    }

    /** Whether 100 times one of the people, and something of two digits, was told. */
    private boolean isPersonInFront(int ox) {
        return ox >= 0 && numbers.isPerson(ox / 100);
    }

    /** All numbers that mend() can tell, by what they are and whose. */
    private static final class Numbers {
        static final int NEAR = 0, KIN = 1, LONG = 2, MEANS = 3, NERVE = 4, EARS = 5;
        static final int SUM = 6, GROWS = 7, BOUND = 8, HALF = 9;
        static final int[] LEAST = {0, 0, 1, 0, 0, 0, 0, 0, 1, 1};
        static final int[] MOST = {9, 7, 9, 9999, 9, 127, 9999, 99, 99, 99};
        static final int MOST_WORDS = 16, MOST_PEOPLE = 7, LAST_KIN = 7;
        static final int MENTIONED = 2, HALF_SAID = 1;

        final int[][] held = new int[10][MOST_WORDS];
        int words;
        int people;

        Numbers() {
            held[SUM][0] = 50;
            held[GROWS][0] = 5;
            held[BOUND][0] = 20;
            held[HALF][0] = 12;
        }

        boolean isWord(int word) {
            return word >= 0 && word < words;
        }

        boolean isPerson(int one) {
            return one >= 0 && one < people;
        }

        boolean has(int number, int what) {
            if (what < NEAR || what > HALF) {
                return false;
            }
            return what <= LONG ? isWord(number) : what <= EARS ? isPerson(number) : number == 0;
        }

        boolean allows(int what, int v) {
            return v >= LEAST[what] && v <= MOST[what];
        }

        boolean mayBeWord(int near, int kin, int size) {
            return allows(NEAR, near) && allows(KIN, kin) && allows(LONG, size);
        }

        int addWord(int near, int kin, int size) {
            if (words >= MOST_WORDS) {
                return FULL;
            }
            held[NEAR][words] = near;
            held[KIN][words] = kin;
            held[LONG][words] = size;
            words++;
            return words - 1;
        }

        int addPerson(int means) {
            if (people >= MOST_PEOPLE) {
                return FULL;
            }
            held[MEANS][people] = means;
            held[NERVE][people] = 5;
            held[EARS][people] = 127;
            people++;
            return people - 1;
        }

        int near(int word) {
            return held[NEAR][word];
        }

        int kin(int word) {
            return held[KIN][word];
        }

        /** LONG of a WORD. */
        int size(int word) {
            return held[LONG][word];
        }

        int bound() {
            return held[BOUND][0];
        }

        int wordsOfKin(int kin) {
            int bits = 0;
            for (int w = 0; w < words; w++) {
                bits |= kin(w) == kin ? 1 << w : 0;
            }
            return bits;
        }

        int level(int near) {
            return near >= bound() ? MENTIONED : near >= held[HALF][0] ? HALF_SAID : 0;
        }

        int sumOn(int day) {
            return Math.min(MOST[SUM], held[SUM][0] + day * held[GROWS][0]);
        }

        boolean isHeard(int one) {
            for (int other = 0; other < people; other++) {
                if (other != one && (held[EARS][other] >> one & 1) != 0) {
                    return true;
                }
            }
            return false;
        }

        int owed(int one, int level, int day) {
            if (level == 0 || !isHeard(one)) {
                return 0;
            }
            return level == MENTIONED ? sumOn(day) : sumOn(day) / 2;
        }

        int shareOf(int one) {
            int all = 0;
            for (int other = 0; other < people; other++) {
                all += held[MEANS][other];
            }
            int left = held[SUM][0];
            for (int other = 0; other < people; other++) {
                left -= partOf(other, all);
            }
            // what is cut off goes round by pennies, from number 0 on
            int round = people == 0 ? 0 : left / people + (one < left % people ? 1 : 0);
            return partOf(one, all) + round;
        }

        private int partOf(int one, int all) {
            return all == 0 ? 0 : held[SUM][0] * held[MEANS][one] / all;
        }
    }

    /** The changes made by mend(), the latest last; behind the done ones lie those undone. */
    private static final class Changes {
        static final int MOST_KEPT = 40;

        final Numbers numbers;
        final int[] whose = new int[MOST_KEPT];
        final int[] what = new int[MOST_KEPT];
        final int[] before = new int[MOST_KEPT];
        final int[] after = new int[MOST_KEPT];
        int done;
        int undone;

        Changes(Numbers numbers) {
            this.numbers = numbers;
        }

        void make(int number, int which, int v) {
            int was = numbers.held[which][number];
            if (was == v) {
                return;
            }
            if (done >= MOST_KEPT) {
                forgetOldest();
            }
            whose[done] = number;
            what[done] = which;
            before[done] = was;
            after[done] = v;
            done++;
            undone = 0;
            numbers.held[which][number] = v;
        }

        private void forgetOldest() {
            System.arraycopy(whose, 1, whose, 0, MOST_KEPT - 1);
            System.arraycopy(what, 1, what, 0, MOST_KEPT - 1);
            System.arraycopy(before, 1, before, 0, MOST_KEPT - 1);
            System.arraycopy(after, 1, after, 0, MOST_KEPT - 1);
            done = MOST_KEPT - 1;
        }

        int takeBack() {
            done--;
            undone++;
            numbers.held[what[done]][whose[done]] = before[done];
            return done;
        }

        int doAgain() {
            numbers.held[what[done]][whose[done]] = after[done];
            done++;
            undone--;
            return undone;
        }
    }

    /**
     * THE TAPE, and its reading by the grammar of THE LAW. What is read becomes steps for a stack:
     * a number of 0 or more is laid on it; a sign or a name stands as its letter below 0.
     */
    private static final class LawText {
        static final int ROOM = 120, MOST_OPEN = 6, FAULTLESS = -1;

        final int[] bytes = new int[ROOM];
        final int[] code = new int[Law.ROOM];
        int length;
        int size;
        private int at;
        private int fault;

        int append(int letter) {
            if (length >= ROOM) {
                return FULL;
            }
            bytes[length] = letter;
            length++;
            return length;
        }

        /** The place of the fault, or FAULTLESS. */
        int read() {
            at = 0;
            size = 0;
            fault = FAULTLESS;
            readLine();
            for (int i = 0; i < ROOM && fault == FAULTLESS && next() == ';'; i++) {
                at++;
                readLine();
            }
            if (fault == FAULTLESS && at < length) {
                fault = at;
            }
            emit(0);
            emit(Law.ANSWER);
            return fault;
        }

        private void readLine() {
            readEither(0);
            if (fault == FAULTLESS && next() == '?') {
                at++;
                emit(Law.SKIP_IF_0);
                int target = size;
                emit(0);
                readEither(0);
                emit(Law.ANSWER);
                if (target < code.length) {
                    code[target] = size;
                }
            } else {
                emit(Law.ANSWER);
            }
        }

        private void readEither(int open) {
            readBoth(open);
            for (int i = 0; i < ROOM && fault == FAULTLESS && next() == '|'; i++) {
                at++;
                readBoth(open);
                emit(-'|');
            }
        }

        private void readBoth(int open) {
            readComparison(open);
            for (int i = 0; i < ROOM && fault == FAULTLESS && next() == '&'; i++) {
                at++;
                readComparison(open);
                emit(-'&');
            }
        }

        private void readComparison(int open) {
            readSum(open);
            int sign = next();
            if (fault == FAULTLESS && (sign == '<' || sign == '=' || sign == '>')) {
                at++;
                readSum(open);
                emit(-sign);
            }
        }

        private void readSum(int open) {
            readProduct(open);
            for (int i = 0; i < ROOM && fault == FAULTLESS && (next() == '+' || next() == '-'); i++) {
                int sign = next();
                at++;
                readProduct(open);
                emit(-sign);
            }
        }

        private void readProduct(int open) {
            readOperand(open);
            for (int i = 0; i < ROOM && fault == FAULTLESS && isProductSign(next()); i++) {
                int sign = next();
                at++;
                readOperand(open);
                emit(-sign);
            }
        }

        private static boolean isProductSign(int letter) {
            return letter == '*' || letter == '/' || letter == '%';
        }

        private void readOperand(int open) {
            int letter = next();
            if (fault != FAULTLESS) {
                return;
            }
            if (isDigit(letter)) {
                readNumber();
            } else if (Law.isName(letter)) {
                at++;
                emit(-letter);
            } else if (open < MOST_OPEN && (letter == '!' || letter == '-')) {
                at++;
                readOperand(open + 1);
                emit(letter == '!' ? -'!' : Law.NEGATE);
            } else if (open < MOST_OPEN && letter == '(') {
                at++;
                readEither(open + 1);
                readClosing();
            } else {
                fault = at;
            }
        }

        private void readClosing() {
            if (fault != FAULTLESS) {
                return;
            }
            if (next() == ')') {
                at++;
            } else {
                fault = at;
            }
        }

        private void readNumber() {
            int number = 0;
            for (int digits = 0; digits < 4 && isDigit(next()); digits++) {
                number = number * 10 + next() - '0';
                at++;
            }
            emit(number);
        }

        private static boolean isDigit(int letter) {
            return letter >= '0' && letter <= '9';
        }

        private int next() {
            return at < length && at < ROOM ? bytes[at] : -1;
        }

        private void emit(int step) {
            if (size < code.length) {
                code[size] = step;
                size++;
            }
        }
    }

    /** THE LAW as steps for a stack; without steps there is no text. */
    private static final class Law {
        static final int ROOM = 256;
        static final int ANSWER = -1000, SKIP_IF_0 = -1001, NEGATE = -1002;

        private final int[] code = new int[ROOM];
        private final int[] stack = new int[ROOM];
        private int size;
        private int near;
        private int kin;
        private int wordLong;
        private int place;
        private int ahead;
        private int nerve;

        void become(int[] steps, int many) {
            size = Math.min(many, ROOM);
            System.arraycopy(steps, 0, code, 0, size);
        }

        boolean hasText() {
            return size > 0;
        }

        void wordIs(int n, int k, int l) {
            near = n;
            kin = k;
            wordLong = l;
        }

        void sayingIs(int p, int b, int v) {
            place = p;
            ahead = b;
            nerve = v;
        }

        int worth() {
            if (size == 0) {
                return near + ahead;
            }
            int top = 0;
            int at = 0;
            for (int step = 0; step < ROOM && at < size && top < ROOM; step++) {
                int now = code[at];
                at++;
                if (now >= 0) {
                    stack[top] = now;
                    top++;
                } else if (isName(-now)) {
                    stack[top] = named(-now);
                    top++;
                } else if (top == 0) {
                    return 0;
                } else if (now == ANSWER) {
                    return Math.max(-99, Math.min(99, stack[top - 1]));
                } else if (now == SKIP_IF_0) {
                    top--;
                    at = stack[top] != 0 || at >= size ? at + 1 : Math.max(at, code[at]);
                } else if (now == NEGATE) {
                    stack[top - 1] = -stack[top - 1];
                } else if (now == -'!') {
                    stack[top - 1] = stack[top - 1] == 0 ? 1 : 0;
                } else if (top > 1) {
                    top--;
                    stack[top - 1] = joined(-now, stack[top - 1], stack[top]);
                }
            }
            return 0;
        }

        static boolean isName(int letter) {
            return letter == 'n' || letter == 'k' || letter == 'l'
                    || letter == 'p' || letter == 'b' || letter == 'v';
        }

        private int named(int letter) {
            switch (letter) {
                case 'n':
                    return near;
                case 'k':
                    return kin;
                case 'l':
                    return wordLong;
                case 'p':
                    return place;
                case 'b':
                    return ahead;
                default:
                    return nerve;
            }
        }

        private static int joined(int sign, int left, int right) {
            switch (sign) {
                case '+':
                    return left + right;
                case '-':
                    return left - right;
                case '*':
                    return left * right;
                case '/':
                    return right == 0 ? 0 : left / right;
                case '%':
                    return right == 0 ? 0 : left % right;
                case '<':
                    return left < right ? 1 : 0;
                case '=':
                    return left == right ? 1 : 0;
                case '>':
                    return left > right ? 1 : 0;
                case '&':
                    return left != 0 && right != 0 ? 1 : 0;
                default:
                    return left != 0 || right != 0 ? 1 : 0;
            }
        }
    }

    /** A SENTENCE as it is spoken by one of the people, and how NEAR it comes. */
    private static final class Speech {
        static final int ENDED = -1;
        static final int PARTING = -1;
        static final int MOST_IN_SENTENCE = 10;
        static final int KEPT_PLACES = 16;

        private final Numbers numbers;
        private final Law rule;
        private final int[] spoken = new int[Shelf.ROOM + 4];
        // what a WORD gives, by place, b and WORD; above its lowest 8 bits stands the turn that it is of
        private final int[] gifts = new int[KEPT_PLACES * 10 * Numbers.MOST_WORDS];
        private int nerve;
        private int turn;
        // the greatest of the sums that end with the last WORD looked at; 0: none
        private int running;
        int length;

        Speech(Numbers numbers, Law rule) {
            this.numbers = numbers;
            this.rule = rule;
        }

        /** Numbers may have changed since the last speaker, so nothing kept counts any more. */
        void speakerIs(int one) {
            nerve = numbers.held[Numbers.NERVE][one];
            turn++;
        }

        /** By how much a WORD comes nearer at a place, with b told. */
        int gift(int word, int place, int b) {
            boolean kept = place < KEPT_PLACES && rule.hasText();
            int key = kept ? (place * 10 + b) * Numbers.MOST_WORDS + word : 0;
            if (kept && gifts[key] >> 8 == turn) {
                return (gifts[key] & 255) - 128;
            }
            rule.wordIs(numbers.near(word), numbers.kin(word), numbers.size(word));
            rule.sayingIs(place, b, nerve);
            int given = rule.worth();
            if (kept) {
                gifts[key] = (turn << 8) + given + 128;
            }
            return given;
        }

        /** b of a WORD, with another one right ahead of it. */
        private int bOf(int word, int ahead) {
            return numbers.kin(ahead) == numbers.kin(word) ? numbers.near(ahead) : 0;
        }

        private int giftAt(int place) {
            return gift(spoken[place], place, place == 0 ? 0 : bOf(spoken[place], spoken[place - 1]));
        }

        int nearness() {
            int greatest = 0;
            running = 0;
            for (int i = 0; i < length; i++) {
                running = Math.max(0, running + giftAt(i));
                greatest = Math.max(greatest, running);
            }
            return greatest;
        }

        /** What sums that end with one WORD more come to, behind a SENTENCE whose nearness() was asked last. */
        int runBehind(int word) {
            int b = length == 0 || length > spoken.length ? 0 : bOf(word, spoken[length - 1]);
            return running + gift(word, length, b);
        }

        int placeBehindWhich(int bound) {
            running = 0;
            for (int i = 0; i < length; i++) {
                running = Math.max(0, running + giftAt(i));
                if (running >= bound) {
                    return i;
                }
            }
            return NOT;
        }

        int aloneNearness(int word) {
            return Math.max(0, gift(word, 0, 0));
        }

        int pairNearness(int first, int second) {
            int alone = aloneNearness(first);
            return Math.max(alone, alone + gift(second, 1, bOf(second, first)));
        }

        /** 100 times the first WORD and the second one of the least NEAR answer to a KIN, or NOT. */
        int safestAnswer(int kin) {
            int safest = NOT;
            int least = 0;
            for (int first = 0; first < numbers.words; first++) {
                for (int second = 0; second < numbers.words && numbers.kin(first) == kin; second++) {
                    int near = pairNearness(first, second);
                    if (numbers.kin(second) != kin && (safest == NOT || near < least)) {
                        least = near;
                        safest = 100 * first + second;
                    }
                }
            }
            return safest;
        }

        void append(int word) {
            if (length < spoken.length) {
                spoken[length] = word;
                length++;
            }
        }

        int wordBits() {
            int bits = 0;
            for (int i = 0; i < length; i++) {
                bits |= 1 << spoken[i];
            }
            return bits;
        }

        boolean goesOn(int value) {
            return value == PARTING || numbers.isWord(value);
        }

        void readSentence(Shelf from) {
            length = 0;
            int most = Math.min(from.length, MOST_IN_SENTENCE);
            for (int i = 0; i < most && numbers.isWord(from.number(i)); i++) {
                append(from.number(i));
            }
        }

        /** Reads one SENTENCE of MONTHS: where the one behind it begins, or ENDED. */
        int readMonth(Shelf from, int start) {
            length = 0;
            for (int i = Math.max(0, start); i < from.length; i++) {
                int value = from.number(i);
                if (!goesOn(value)) {
                    return ENDED;
                }
                if (value == PARTING) {
                    return i + 1;
                }
                append(value);
            }
            return ENDED;
        }
    }

    /** How told KINS can be spoken of so that it comes no NEARER than so much. */
    private static final class Care {
        static final int MOST_KINS = 8;
        static final int NO_WAY = -1;
        static final int NEARS = 10, LONGS = 9 * MOST_KINS + 1, TOO_MUCH = 100;

        private final Numbers numbers;
        private final Speech speech;
        private final int[] kins = new int[MOST_KINS];
        // the greatest running sum with which the rest can still be said, by place, b and how LONG the rest is
        private final int[] rooms = new int[MOST_KINS * NEARS * LONGS];
        // the least running sum behind a WORD, by how many were put in: of this KIN, of the next one
        private int[] runs = new int[MOST_KINS * Numbers.MOST_WORDS];
        private int[] nextRuns = new int[MOST_KINS * Numbers.MOST_WORDS];
        private int many;
        private int most;

        Care(Numbers numbers, Speech speech) {
            this.numbers = numbers;
            this.speech = speech;
        }

        void readKins(Shelf from, int nearest) {
            most = nearest;
            many = 0;
            int last = Math.min(from.length, MOST_KINS);
            for (int i = 0; i < last && isKin(from.number(i)); i++) {
                kins[i] = from.number(i);
                many++;
            }
        }

        private static boolean isKin(int value) {
            return value >= 0 && value <= Numbers.LAST_KIN;
        }

        /** From the last KIN back; a less running sum is never worse, so the greatest that will do is enough. */
        void layOut() {
            for (int place = many - 1; place >= 0; place--) {
                int bs = bsAt(place);
                for (int b = 0; b < NEARS; b++) {
                    if ((bs >> b & 1) != 0) {
                        layOutFrom(place, b);
                    }
                }
            }
        }

        /** Which b (bits) a WORD at a place may have. */
        private int bsAt(int place) {
            int bs = place == 0 ? 1 : 0;
            for (int word = 0; word < numbers.words && place > 0; word++) {
                if (numbers.kin(word) == kins[place - 1]) {
                    bs |= 1 << bBehind(word, place - 1);
                }
            }
            return bs;
        }

        private void layOutFrom(int place, int b) {
            int start = (place * NEARS + b) * LONGS;
            for (int i = 0; i < LONGS; i++) {
                rooms[start + i] = NO_WAY;
            }
            for (int word = 0; word < numbers.words; word++) {
                if (numbers.kin(word) != kins[place]) {
                    continue;
                }
                int gift = speech.gift(word, place, b);
                int first = start + numbers.size(word);
                int next = bBehind(word, place);
                for (int rest = 0; rest <= 9 * (many - place - 1); rest++) {
                    int room = roomFor(place + 1, next, rest);
                    if (room >= 0) {
                        rooms[first + rest] = Math.max(rooms[first + rest], Math.min(most, room - gift));
                    }
                }
            }
        }

        private int roomFor(int place, int b, int rest) {
            if (place >= many) {
                return rest == 0 ? most : NO_WAY;
            }
            return rest < 0 || rest >= LONGS ? NO_WAY : rooms[(place * NEARS + b) * LONGS + rest];
        }

        int shortestLength() {
            for (int size = 0; size < LONGS; size++) {
                if (roomFor(0, 0, size) >= 0) {
                    return size;
                }
            }
            return NOT;
        }

        int shortestWord(int k) {
            int size = shortestLength();
            int word = NOT;
            int b = 0;
            int run = 0;
            for (int place = 0; place <= k && size >= 0; place++) {
                word = place < many ? firstThatFits(place, b, run, size) : NOT;
                if (word < 0) {
                    return NOT;
                }
                run = runBehind(word, place, b, run);
                b = bBehind(word, place);
                size -= numbers.size(word);
            }
            return word;
        }

        private int firstThatFits(int place, int b, int run, int size) {
            for (int word = 0; word < numbers.words; word++) {
                int room = roomFor(place + 1, bBehind(word, place), size - numbers.size(word));
                if (numbers.kin(word) == kins[place] && runBehind(word, place, b, run) <= room) {
                    return word;
                }
            }
            return NOT;
        }

        private int runBehind(int word, int place, int b, int run) {
            return Math.max(0, run + speech.gift(word, place, b));
        }

        private int bBehind(int word, int index) {
            return index + 1 < many && kins[index + 1] == kins[index] ? numbers.near(word) : 0;
        }

        /** A less running sum is never worse, so the least one by WORD and how many put in is enough. */
        int fewestPutIn() {
            if (many == 0) {
                return 0;
            }
            clearNext();
            for (int word = 0; word < numbers.words; word++) {
                if (numbers.kin(word) == kins[0]) {
                    offer(0, word, runBehind(word, 0, 0, 0));
                }
            }
            for (int index = 0; index + 1 < many; index++) {
                int[] old = runs;
                runs = nextRuns;
                nextRuns = old;
                clearNext();
                for (int put = 0; put <= index; put++) {
                    goDirectly(index, put);
                    goWithOnePutIn(index, put);
                }
            }
            return fewestReached();
        }

        private void goDirectly(int index, int put) {
            for (int word = 0; word < numbers.words; word++) {
                int run = runs[put * Numbers.MOST_WORDS + word];
                for (int next = 0; next < numbers.words && run <= most; next++) {
                    if (numbers.kin(next) == kins[index + 1]) {
                        offer(put, next, runBehind(next, index + put + 1, bBehind(word, index), run));
                    }
                }
            }
        }

        private void goWithOnePutIn(int index, int put) {
            int run = leastRun(put);
            int between = TOO_MUCH;
            for (int word = 0; word < numbers.words && run <= most; word++) {
                int kin = numbers.kin(word);
                if (kin != kins[index] && kin != kins[index + 1]) {
                    between = Math.min(between, runBehind(word, index + put + 1, 0, run));
                }
            }
            for (int next = 0; next < numbers.words && between <= most; next++) {
                if (numbers.kin(next) == kins[index + 1]) {
                    offer(put + 1, next, runBehind(next, index + put + 2, 0, between));
                }
            }
        }

        private int leastRun(int put) {
            int least = TOO_MUCH;
            for (int word = 0; word < numbers.words; word++) {
                least = Math.min(least, runs[put * Numbers.MOST_WORDS + word]);
            }
            return least;
        }

        private void clearNext() {
            for (int i = 0; i < nextRuns.length; i++) {
                nextRuns[i] = TOO_MUCH;
            }
        }

        private void offer(int put, int word, int run) {
            int key = put * Numbers.MOST_WORDS + word;
            if (run <= most && key < nextRuns.length && run < nextRuns[key]) {
                nextRuns[key] = run;
            }
        }

        private int fewestReached() {
            for (int key = 0; key < nextRuns.length; key++) {
                if (nextRuns[key] <= most) {
                    return key / Numbers.MOST_WORDS;
                }
            }
            return NOT;
        }
    }

    /** Talk in deed: what LED tells, and an image of it with MEANS. */
    private static final class Deeds {
        static final int SAYINGS = 0, PENCE = 1, TOLD = 2, DAYS = 3, WHO = 4, NOW = 5;

        private final Numbers numbers;
        final int[] led = new int[6];
        private final int[] imageLed = new int[6];
        private final int[] imageMeans = new int[Numbers.MOST_PEOPLE];
        private int imagePeople;
        boolean hasImage;

        Deeds(Numbers numbers) {
            this.numbers = numbers;
            led[WHO] = NOT;
        }

        int saying(int one, int level) {
            led[SAYINGS]++;
            if (led[WHO] != NOT || level <= 0 || !numbers.isHeard(one)) {
                return 0;
            }
            int[] means = numbers.held[Numbers.MEANS];
            int paid = Math.min(means[one], numbers.owed(one, level, led[NOW]));
            means[one] -= paid;
            led[PENCE] += paid;
            if (level == Numbers.MENTIONED) {
                led[WHO] = one;
                led[TOLD]++;
            }
            return paid;
        }

        int passDay() {
            led[DAYS]++;
            led[NOW]++;
            return led[NOW];
        }

        int startLevy() {
            int who = led[WHO];
            led[WHO] = NOT;
            led[NOW] = 0;
            return who;
        }

        void keepImage() {
            hasImage = true;
            imagePeople = numbers.people;
            System.arraycopy(led, 0, imageLed, 0, led.length);
            System.arraycopy(numbers.held[Numbers.MEANS], 0, imageMeans, 0, imagePeople);
        }

        void layBack() {
            System.arraycopy(imageLed, 0, led, 0, led.length);
            System.arraycopy(imageMeans, 0, numbers.held[Numbers.MEANS], 0, imagePeople);
        }
    }

    /** BODIES of KINDS, and the acts that come from above. */
    private static final class Bodies {
        static final int ROOM = 50, TRACE_ROOM = 24, KINDS = 8, ACTS = 4, MOST_DEEP = 40;
        static final int SAYS = 0, NEARS = 1, PAYS = 2, TELLS = 3;
        static final int SAYING = 0, HINT = 1, STAMMER = 2, SONG = 3, FOREIGNER = 6;
        static final int[] ABOVE = {-1, SAYING, SAYING, STAMMER, HINT, SONG, SAYING, FOREIGNER};
        // by KIND and ACT; 0 where the KIND has none of its own
        static final int[] OWN = {
            1, 10, 11, 2,
            20, 0, 0, 0,
            0, 30, 0, 0,
            0, 41, 40, 0,
            0, 0, 0, 50,
            0, 0, 60, 61,
            70, 0, 0, 0,
            81, 80, 0, 0};

        private final int[] kinds = new int[ROOM];
        final int[] traced = new int[TRACE_ROOM];
        int many;
        int ran;
        private int kind;
        private int number;

        static boolean isKind(int kind) {
            return kind >= 0 && kind < KINDS;
        }

        static boolean isUnder(int kind, int upper) {
            int at = kind;
            for (int i = 0; i < KINDS && isKind(at) && at != upper; i++) {
                at = ABOVE[at];
            }
            return at == upper;
        }

        boolean has(int body) {
            return body >= 0 && body < many;
        }

        boolean hasTrace(int i) {
            return i >= 0 && i < ran && i < TRACE_ROOM;
        }

        int kindOf(int body) {
            return has(body) ? kinds[body] : SAYING;
        }

        int add(int newKind) {
            if (many >= ROOM) {
                return FULL;
            }
            kinds[many] = newKind;
            many++;
            return many - 1;
        }

        int start(int body, int act, int x) {
            ran = 0;
            if (!has(body) || act < 0 || act >= ACTS) {
                return 0;
            }
            kind = kinds[body];
            number = body;
            return from(kind, act, x, 0);
        }

        private int from(int lowest, int act, int x, int depth) {
            int at = lowest;
            for (int i = 0; i < KINDS && isKind(at) && OWN[at * ACTS + act] == 0; i++) {
                at = ABOVE[at];
            }
            return isKind(at) && depth < MOST_DEEP ? run(OWN[at * ACTS + act], x, depth + 1) : 0;
        }

        private int run(int code, int x, int depth) {
            if (ran < TRACE_ROOM) {
                traced[ran] = code;
            }
            ran++;
            switch (code) {
                case 1:
                    return x + number;
                case 10:
                    return from(kind, SAYS, x, depth) * 2;
                case 11:
                    return x ^ number;
                case 2:
                    return from(kind, NEARS, x, depth) - from(kind, PAYS, 1, depth);
                case 20:
                    return from(SAYING, SAYS, x, depth) + 3;
                case 30:
                    return -from(SAYING, NEARS, x, depth);
                case 40:
                    return from(STAMMER, PAYS, x, depth) * 3;
                case 41:
                    return from(STAMMER, NEARS, x + 1, depth);
                case 50:
                    return from(HINT, TELLS, x, depth) ^ 5;
                case 60:
                    return from(SONG, PAYS, x, depth) - from(kind, SAYS, 2, depth);
                case 61:
                    return from(SONG, TELLS, x, depth) + 1;
                case 70:
                    return from(SAYING, SAYS, x, depth) * 2;
                case 80:
                    return from(FOREIGNER, NEARS, x, depth) + from(kind, PAYS, 2, depth);
                case 81:
                    return from(FOREIGNER, SAYS, x, depth) - 1;
                default:
                    return 0;
            }
        }
    }

    /** A SHELF: nothing, a BODY or a ROW. */
    private static final class Shelf {
        static final int NOTHING = 0, BODY = 1, ROW = 2;
        static final int BYTES = 0, SHORTS = 1, INTS = 2, LONGS = 3, BOOLEANS = 4;
        static final int ROOM = 60;

        final long[] cells = new long[ROOM];
        int holds;
        int body;
        int sort;
        int length;

        void empty() {
            holds = NOTHING;
        }

        void holdBody(int number) {
            holds = BODY;
            body = number;
        }

        void holdRow(int newSort, int n) {
            holds = ROW;
            sort = newSort;
            length = n;
            for (int i = 0; i < ROOM; i++) {
                cells[i] = 0;
            }
        }

        boolean isRowOf(int wanted) {
            return holds == ROW && sort == wanted;
        }

        /** 0 where a ROW of the wanted sort is there. */
        int refusal(int wanted) {
            return holds == NOTHING ? NOTHING_THERE : isRowOf(wanted) ? 0 : OTHER_KIND;
        }

        /** 0 where a ROW with place i is there. */
        int refusalAt(int i) {
            if (holds == NOTHING) {
                return NOTHING_THERE;
            }
            return holds != ROW ? OTHER_KIND : i < 0 || i >= length ? NO_PLACE : 0;
        }

        boolean hasPlaces(int start, int n) {
            return n >= 0 && start >= 0 && n <= length && start <= length - n;
        }

        void set(int i, long v) {
            switch (sort) {
                case BYTES:
                    cells[i] = (byte) v;
                    break;
                case SHORTS:
                    cells[i] = (short) v;
                    break;
                case INTS:
                    cells[i] = (int) v;
                    break;
                case BOOLEANS:
                    cells[i] = v != 0 ? 1 : 0;
                    break;
                default:
                    cells[i] = v;
            }
        }

        int number(int i) {
            return i >= 0 && i < length ? (int) cells[i] : -2;
        }
    }
}
