import java.util.Arrays;
import java.util.NoSuchElementException;

/** Prayers punched into cards, laced end to end and woven on Sundays: see the document's promises. */
public final class PunchCards {
    public static final int NONE = -1;

    private static final int TOO_LONG = -2;
    private static final int MOST_BYTES = 700;
    private static final int FED_BYTES = 20;
    private static final int MOST_THREADS = 12;
    private static final int MOST_CARDS = 10;
    private static final int MOST_PICKS = 12;
    private static final int MOST_FIGURES = 5;
    private static final int MOST_ROWS = 3;
    private static final int MOST_ACTS = 40;
    private static final int MOST_SEEN = 8;
    private static final int MOST_ORDERED = 9;
    private static final int SMOOTH = 9;
    private static final int WEARS = SMOOTH + 1;
    private static final int LAST_SUNDAY = 999;
    private static final int MOST_AT_ONCE = 20;
    private static final int FARTHEST = 30;
    private static final int FARTHEST_SEEN = 20;
    private static final int DEAREST_CUT = 50;

    private final Reader reader = new Reader();
    private final Loom loom = new Loom();
    private final Sieve sieve = new Sieve();
    private final Tangle tangle = new Tangle();
    private final Wardrobe wardrobe = new Wardrobe();
    private final int[] refused = new int[3];
    private final int[] turnedRows = new int[MOST_CARDS * MOST_PICKS];
    private final int[] costs = new int[WEARS];
    private final Work now = new Work();
    private final Work trial = new Work();
    private final Work keptWork = new Work();
    private final Acts acts = new Acts();
    private final Acts keptActs = new Acts();
    private final Seen seen = new Seen();
    private final Seen keptSeen = new Seen();
    private Told told = new Told();
    private Told draft = new Told();
    private boolean imaged = false;
    private int faultPlace = NONE;

    public PunchCards() {
    }

    // ---- the text -------------------------------------------------------

    public int feed(int a, int b, int c, int d, int e) {
        if (reader.size + FED_BYTES > MOST_BYTES) {
            return NONE;
        }
        reader.append(a);
        reader.append(b);
        reader.append(c);
        reader.append(d);
        reader.append(e);
        return reader.size;
    }

    public int chapel(int n) throws IllegalArgumentException {
        if (n < 0 || n > reader.size) {
            throw new IllegalArgumentException("the tape has not so many bytes");
        }
        int kind = reader.read(n, draft);
        reader.size = 0;
        if (kind != 0) {
            faultPlace = reader.place;
            refused[0]++;
            return kind;
        }
        faultPlace = NONE;
        Told older = told;
        told = draft;
        draft = older;
        loom.forgetRule();
        now.begin(told);
        acts.size = 0;
        seen.size = 0;
        imaged = false;
        return 0;
    }

    public int fault() {
        return faultPlace;
    }

    // ---- what is there --------------------------------------------------

    public int count(int what) throws NoSuchElementException {
        switch (what) {
            case 0: return told.threads;
            case 1: return told.cards;
            case 2: return now.picks;
            case 3: return told.figures;
            case 4: return now.sunday;
            case 5: return now.grants;
            case 6: return tangle.ofLace(told, now);
            case 7: return plainThreads();
            case 8: return repeatOf();
            case 9: return standingNow();
            case 10: return acts.size;
            case 11: return seen.size;
            case 12: return reader.size;
            case 13: return refused[0];
            case 14: return refused[1];
            case 15: return refused[2];
            default: throw new NoSuchElementException("no such count");
        }
    }

    public int card(int card, int what) throws NoSuchElementException {
        needCard(card);
        switch (what) {
            case 0: return now.holes[card];
            case 1: return told.wants[card];
            case 2: return now.wear[card];
            case 3: return told.had(now, card);
            case 4: return now.placesOf(card);
            default: throw new NoSuchElementException("no such thing of a card");
        }
    }

    public int lace(int place) throws NoSuchElementException {
        needPick(place);
        return now.laced[place];
    }

    public int figure(int figure, int what) throws NoSuchElementException {
        needFigure(figure);
        switch (what) {
            case 0: return told.figureWants[figure];
            case 1: return told.widths[figure];
            case 2: return told.heights[figure];
            case 3:
            case 4:
            case 5: return told.rows[figure * MOST_ROWS + what - 3];
            default: throw new NoSuchElementException("no such thing of a figure");
        }
    }

    public int snarl(int card, int other) throws NoSuchElementException {
        needCard(card);
        needCard(other);
        return tangle.between(told, card, told.had(now, card), other, told.had(now, other));
    }

    // ---- acts -----------------------------------------------------------

    public int sundays(int many) {
        if (many < 1 || many > MOST_AT_ONCE || now.sunday + many > LAST_SUNDAY) {
            refused[1]++;
            return NONE;
        }
        acts.keep(Acts.SUNDAYS, now.sunday, now.grants, now.packedWear());
        for (int i = 0; i < many; i++) {
            passSunday(now);
        }
        return now.sunday;
    }

    public int punch(int card, int holes) throws NoSuchElementException {
        needCard(card);
        if (holes < 0 || holes > told.all) {
            refused[1]++;
            return NONE;
        }
        int before = now.holes[card];
        acts.keep(Acts.HOLES, card, before, 0L);
        now.holes[card] = holes;
        return before;
    }

    public int turn(int card) throws NoSuchElementException {
        needCard(card);
        acts.keep(Acts.HOLES, card, now.holes[card], 0L);
        now.holes[card] = told.turned(now.holes[card]);
        return now.holes[card];
    }

    public int cut(int card) throws NoSuchElementException {
        needCard(card);
        int before = now.wear[card];
        if (before == 0) {
            refused[1]++;
            return NONE;
        }
        acts.keep(Acts.WEAR, card, before, 0L);
        now.wear[card] = 0;
        return before;
    }

    public boolean change(int place, int other) {
        if (place == other || !isPick(place) || !isPick(other)) {
            refused[1]++;
            return false;
        }
        acts.keep(Acts.PLACES, place, other, 0L);
        now.exchange(place, other);
        return true;
    }

    public int undo() {
        if (acts.size < 1) {
            return NONE;
        }
        acts.takeBack(now);
        return acts.size;
    }

    // ---- if only Sundays go by --------------------------------------------

    public int then(int pick, int sundays) throws NoSuchElementException, IllegalArgumentException {
        needPick(pick);
        if (sundays < 0 || sundays > FARTHEST) {
            throw new IllegalArgumentException("0 to 30 Sundays");
        }
        loom.weave(told, now, sundays);
        return loom.rows[pick];
    }

    public int granted(int sundays) throws IllegalArgumentException {
        if (sundays < 0 || sundays > FARTHEST) {
            throw new IllegalArgumentException("0 to 30 Sundays");
        }
        return grantsBehind(now, sundays);
    }

    public int worn(int card) throws NoSuchElementException {
        needCard(card);
        if (now.wear[card] >= SMOOTH) {
            return 0;
        }
        return now.placesOf(card) == 0 ? NONE : SMOOTH - now.wear[card];
    }

    public int changes() {
        loom.weave(told, now, 0);
        loom.keepAside();
        // Behind 9 Sundays every laced card is worn smooth, so no later one can be the first.
        for (int i = 1; i <= SMOOTH; i++) {
            loom.weave(told, now, i);
            if (loom.unlikeAside() != 0) {
                return i;
            }
        }
        return NONE;
    }

    public int floats(int thread) throws NoSuchElementException {
        if (thread != NONE && !isThread(thread)) {
            throw new NoSuchElementException("no such thread");
        }
        loom.weave(told, now, 0);
        if (thread != NONE) {
            return loom.floatOf(thread);
        }
        int longest = 0;
        for (int t = 1; t < told.threads; t++) {
            if (loom.floatOf(t) > loom.floatOf(longest)) {
                longest = t;
            }
        }
        return longest;
    }

    public int stands(int figure, int what) throws NoSuchElementException {
        needFigure(figure);
        needWhat(what, 1);
        loom.weave(told, now, 0);
        int places = 0;
        for (int p = 0; p < loom.picks; p++) {
            int starts = loom.startsAt(told, figure, p);
            if (what == 0 && starts != 0) {
                return 100 * p + lowestBit(starts);
            }
            places += Integer.bitCount(starts);
        }
        return what == 0 ? NONE : places;
    }

    public int order(int i) throws NoSuchElementException {
        if (i != NONE && !isPick(i)) {
            throw new NoSuchElementException("no such place");
        }
        if (now.picks > MOST_ORDERED) {
            return TOO_LONG;
        }
        return tangle.bestOrder(told, now, i);
    }

    public int punching(int card, int figure, int what) throws NoSuchElementException {
        needCard(card);
        needFigure(figure);
        needWhat(what, 1);
        int own = now.holes[card];
        int fewest = MOST_THREADS + 1;
        int best = NONE;
        trial.copy(now);
        for (int holes = 0; holes <= told.all; holes++) {
            int otherwise = Integer.bitCount(holes ^ own);
            if (otherwise < fewest && isWithinReach(holes ^ own, figure)) {
                trial.holes[card] = holes;
                loom.weave(told, trial, 0);
                if (loom.isAnywhere(told, figure)) {
                    fewest = otherwise;
                    best = holes;
                }
            }
        }
        return what == 0 && best != NONE ? fewest : best;
    }

    public int same(int card) throws NoSuchElementException {
        needCard(card);
        loom.weave(told, now, 0);
        loom.keepAside();
        trial.copy(now);
        sieve.begin(told.all);
        for (int i = 0; i < Sieve.PATTERNS; i++) {
            trial.holes[card] = sieve.patterns[i];
            loom.weave(told, trial, 0);
            sieve.good[i] = told.all & ~loom.unlikeAside();
        }
        return sieve.countPassing();
    }

    // ---- by what is seen --------------------------------------------------

    public int see(int pick, int thread, int sundays, boolean up) throws NoSuchElementException {
        needPick(pick);
        if (!isThread(thread)) {
            throw new NoSuchElementException("no such thread");
        }
        if (seen.size >= MOST_SEEN || sundays < 0 || sundays > FARTHEST_SEEN) {
            refused[2]++;
            return NONE;
        }
        seen.add(pick, thread, sundays, up);
        return seen.size;
    }

    public void forget() {
        seen.size = 0;
    }

    public int backwards(int what) throws NoSuchElementException {
        needWhat(what, 2);
        if (what == 2) {
            return threadsNotAsSeen(now) == 0 ? 1 : 0;
        }
        int many = 0;
        for (int card = 0; card < told.cards; card++) {
            tryTurned(card);
            if (threadsNotAsSeen(trial) == 0) {
                if (what == 1) {
                    return card;
                }
                many++;
            }
        }
        return what == 1 ? NONE : many;
    }

    public int punched(int card, int what) throws NoSuchElementException {
        needCard(card);
        needWhat(what, 1);
        trial.copy(now);
        sieve.begin(told.all);
        for (int i = 0; i < Sieve.PATTERNS; i++) {
            trial.holes[card] = sieve.patterns[i];
            sieve.good[i] = told.all & ~threadsNotAsSeen(trial);
        }
        return what == 0 ? sieve.countPassing() : sieve.leastPassing();
    }

    public int next(int what) throws NoSuchElementException {
        needWhat(what, 1);
        int cloths = gatherTurned();
        int first = NONE;
        int most = 0;
        for (int p = 0; p < now.picks; p++) {
            int many = unlikeRowsAt(p, cloths);
            if (many > most) {
                most = many;
                first = p;
            }
        }
        return what == 0 ? first : most;
    }

    // ---- choices, a game, a seed --------------------------------------------

    public int toCut(int sundays, int wear, int cost, int what) throws NoSuchElementException, IllegalArgumentException {
        needWhat(what, 1);
        if (sundays < 1 || sundays > FARTHEST || wear < 0 || wear > SMOOTH || cost < 0 || cost > DEAREST_CUT) {
            throw new IllegalArgumentException("1 to 30 Sundays, wear 0 to 9, cost 0 to 50");
        }
        Arrays.fill(costs, 0);
        for (int i = 1; i < sundays; i++) {
            addSundayToCosts(cost);
        }
        int left = wear + costs[Math.min(wear + 1, SMOOTH)];
        int anew = cost + costs[1];
        if (what == 0) {
            return Math.min(left, anew);
        }
        return anew < left ? 1 : 0;
    }

    public int coats(int card) throws NoSuchElementException {
        if (card != NONE) {
            needCard(card);
        }
        loom.weave(told, now, 0);
        wardrobe.clear(told.cards);
        for (int c = 0; c < told.cards; c++) {
            wardrobe.wearable[c] = loom.coatsFor(told.had(now, c));
        }
        int many = wardrobe.deal();
        return card == NONE ? many : wardrobe.dealt[card];
    }

    public int game(int card, int other, int what) throws NoSuchElementException, IllegalArgumentException {
        needCard(card);
        needCard(other);
        needWhat(what, 1);
        if (card == other) {
            throw new IllegalArgumentException("both are one card");
        }
        int many = 0;
        for (int couple = 0; couple < 4; couple++) {
            int mine = couple >> 1;
            int theirs = couple & 1;
            if (isAtRest(card, other, mine, theirs)) {
                if (what == 1) {
                    return 10 * mine + theirs;
                }
                many++;
            }
        }
        return what == 1 ? NONE : many;
    }

    public int drawn(int seed, int n, int what) throws NoSuchElementException, IllegalArgumentException {
        needWhat(what, 2);
        if (n < 0 || n > FARTHEST) {
            throw new IllegalArgumentException("0 to 30 Sundays");
        }
        trial.copy(now);
        int drawing = seed;
        for (int i = 0; i < n; i++) {
            drawing = befall(drawing);
            passSunday(trial);
        }
        if (what == 0) {
            return trial.grants;
        }
        return what == 1 ? wearOfAll(trial) : threadsUp(trial);
    }

    // ---- more of cloth, cards and lace ----------------------------------------

    public int gap(int pick, int what) throws NoSuchElementException {
        needPick(pick);
        needWhat(what, 1);
        loom.weave(told, now, 0);
        int row = loom.rows[pick];
        int widest = 0;
        int first = NONE;
        int wide = 0;
        for (int t = 0; t < told.threads; t++) {
            wide = (row >> t & 1) == 1 ? 0 : wide + 1;
            if (wide > widest) {
                widest = wide;
                first = t - wide + 1;
            }
        }
        return what == 0 ? widest : first;
    }

    public int unlike(int card, int other) throws NoSuchElementException {
        needCard(card);
        needCard(other);
        int mine = told.had(now, card);
        int theirs = told.had(now, other);
        return Math.min(Integer.bitCount(mine ^ theirs), Integer.bitCount(told.turned(mine) ^ theirs));
    }

    public int family(int card) throws NoSuchElementException {
        needCard(card);
        int own = told.had(now, card);
        int backward = told.turned(own);
        int kin = 0;
        for (int c = 0; c < told.cards; c++) {
            int holes = told.had(now, c);
            if (holes == own || holes == backward) {
                kin |= 1 << c;
            }
        }
        return kin;
    }

    public int turning(int figure) throws NoSuchElementException {
        needFigure(figure);
        int bits = 0;
        for (int card = 0; card < told.cards; card++) {
            tryTurned(card);
            loom.weave(told, trial, 0);
            if (loom.isAnywhere(told, figure)) {
                bits |= 1 << card;
            }
        }
        return bits;
    }

    public int leftOut(int place) throws NoSuchElementException {
        needPick(place);
        trial.copy(now);
        trial.leaveOut(place);
        loom.weave(told, trial, 0);
        return loom.standing(told);
    }

    public int cutting(int sundays) throws IllegalArgumentException {
        if (sundays < 1 || sundays > FARTHEST) {
            throw new IllegalArgumentException("1 to 30 Sundays");
        }
        int most = grantsBehind(now, sundays);
        int best = NONE;
        for (int card = 0; card < told.cards; card++) {
            trial.copy(now);
            trial.wear[card] = 0;
            int grants = grantsBehind(trial, sundays);
            if (grants > most) {
                most = grants;
                best = card;
            }
        }
        return best;
    }

    public boolean mirrored(int what) throws NoSuchElementException {
        needWhat(what, 1);
        loom.weave(told, now, 0);
        for (int p = 0; p < loom.picks; p++) {
            int row = loom.rows[p];
            int opposite = what == 0 ? loom.rows[loom.picks - 1 - p] : told.turned(row);
            if (row != opposite) {
                return false;
            }
        }
        return true;
    }

    public int swap() {
        return tangle.bestExchange(told, now);
    }

    // ---- the image ------------------------------------------------------

    public void image() {
        keptWork.copy(now);
        keptActs.copy(acts);
        keptSeen.copy(seen);
        imaged = true;
    }

    public boolean restore() {
        if (!imaged) {
            return false;
        }
        now.copy(keptWork);
        acts.copy(keptActs);
        seen.copy(keptSeen);
        return true;
    }

    // ---- helpers of the face ------------------------------------------------

    private boolean isPick(int place) {
        return place >= 0 && place < now.picks;
    }

    private boolean isThread(int thread) {
        return thread >= 0 && thread < told.threads;
    }

    private void needCard(int card) {
        if (card < 0 || card >= told.cards) {
            throw new NoSuchElementException("no such card");
        }
    }

    private void needPick(int pick) {
        if (!isPick(pick)) {
            throw new NoSuchElementException("no such place of the lace");
        }
    }

    private void needFigure(int figure) {
        if (figure < 0 || figure >= told.figures) {
            throw new NoSuchElementException("no such figure");
        }
    }

    private static void needWhat(int what, int last) {
        if (what < 0 || what > last) {
            throw new NoSuchElementException("no such answer");
        }
    }

    private static int lowestBit(int bits) {
        for (int i = 0; i < MOST_THREADS; i++) {
            if ((bits >> i & 1) == 1) {
                return i;
            }
        }
        return NONE;
    }

    private int plainThreads() {
        loom.weave(told, now, 0);
        int ever = 0;
        for (int p = 0; p < loom.picks; p++) {
            ever |= loom.rows[p];
        }
        return told.all & ~ever;
    }

    private int repeatOf() {
        loom.weave(told, now, 0);
        for (int by = 1; by < loom.picks; by++) {
            if (loom.isAsMovedBy(by)) {
                return by;
            }
        }
        return loom.picks;
    }

    private int standingNow() {
        loom.weave(told, now, 0);
        return loom.standing(told);
    }

    private void passSunday(Work work) {
        loom.weave(told, work, 0);
        work.grants += Integer.bitCount(loom.standing(told));
        work.wearOn();
        work.sunday++;
    }

    private int grantsBehind(Work work, int many) {
        int grants = work.grants;
        int each = 0;
        for (int i = 0; i < many; i++) {
            // Behind 9 Sundays every laced card is worn smooth: the cloth stays what it is.
            if (i <= SMOOTH) {
                loom.weave(told, work, i);
                each = Integer.bitCount(loom.standing(told));
            }
            grants += each;
        }
        return grants;
    }

    private void tryTurned(int card) {
        trial.copy(now);
        trial.holes[card] = told.turned(now.holes[card]);
    }

    /** The threads at which something that was seen would not be so, as bits. */
    private int threadsNotAsSeen(Work work) {
        int woven = NONE;
        int wrong = 0;
        for (int i = 0; i < seen.size; i++) {
            if (seen.behind[i] != woven) {
                woven = seen.behind[i];
                loom.weave(told, work, woven);
            }
            boolean up = (loom.rows[seen.picks[i]] >> seen.threads[i] & 1) == 1;
            if (up != seen.ups[i]) {
                wrong |= 1 << seen.threads[i];
            }
        }
        return wrong;
    }

    // A thread hangs on the holes at it and next to it alone, so a figure on those from one thread
    // ahead of it to one behind it: what is otherwise farther apart than that is in vain.
    private boolean isWithinReach(int otherwise, int figure) {
        int lowest = otherwise & -otherwise;
        return otherwise == 0 || otherwise < lowest << told.widths[figure] + 2;
    }

    /** Lays the cloths of all cards that may be backwards one behind the other; how many there are. */
    private int gatherTurned() {
        int cloths = 0;
        for (int card = 0; card < told.cards; card++) {
            tryTurned(card);
            if (threadsNotAsSeen(trial) == 0) {
                loom.weave(told, trial, 0);
                System.arraycopy(loom.rows, 0, turnedRows, cloths * MOST_PICKS, MOST_PICKS);
                cloths++;
            }
        }
        return cloths;
    }

    private int unlikeRowsAt(int pick, int cloths) {
        int many = 0;
        for (int i = 0; i < cloths; i++) {
            boolean fresh = true;
            for (int j = 0; j < i; j++) {
                if (turnedRows[j * MOST_PICKS + pick] == turnedRows[i * MOST_PICKS + pick]) {
                    fresh = false;
                }
            }
            if (fresh) {
                many++;
            }
        }
        return many;
    }

    /** From the least costs of some Sundays, by wear, to those of one Sunday more. */
    private void addSundayToCosts(int cost) {
        int anew = cost + costs[1];
        for (int wear = 0; wear <= SMOOTH; wear++) {
            costs[wear] = Math.min(wear + costs[Math.min(wear + 1, SMOOTH)], anew);
        }
    }

    private int sideHoles(int card, int choice) {
        int holes = told.had(now, card);
        return choice == 1 ? told.turned(holes) : holes;
    }

    /** What the first card (or the other one) gains by both choices. */
    private int gainOf(boolean first, int card, int other, int mine, int theirs) {
        int holes = sideHoles(card, mine);
        int otherHoles = sideHoles(other, theirs);
        int own = first ? Integer.bitCount(holes & ~otherHoles) - 2 * mine
                : Integer.bitCount(otherHoles & ~holes) - 2 * theirs;
        return own - tangle.between(told, card, holes, other, otherHoles);
    }

    private boolean isAtRest(int card, int other, int mine, int theirs) {
        return gainOf(true, card, other, 1 - mine, theirs) <= gainOf(true, card, other, mine, theirs)
                && gainOf(false, card, other, mine, 1 - theirs) <= gainOf(false, card, other, mine, theirs);
    }

    private static int stepped(int seed) {
        return seed * 1103515245 + 12345;
    }

    private static int drawOf(int seed, int n) {
        return n < 1 ? 0 : (seed >>> 16 & 0x7FFF) % n;
    }

    /** What comes over the trial's cards ahead of one Sunday; the seed behind it. */
    private int befall(int seed) {
        if (told.cards < 1) {
            return seed;
        }
        int drawing = stepped(seed);
        int card = drawOf(drawing, told.cards);
        drawing = stepped(drawing);
        int fate = drawOf(drawing, 4);
        if (fate == 0) {
            drawing = stepped(drawing);
            trial.holes[card] ^= 1 << drawOf(drawing, told.threads);
        } else if (fate == 1) {
            trial.holes[card] = told.turned(trial.holes[card]);
        } else if (fate == 2) {
            trial.wear[card] = 0;
        }
        return drawing;
    }

    private int wearOfAll(Work work) {
        int sum = 0;
        for (int card = 0; card < told.cards; card++) {
            sum += work.wear[card];
        }
        return sum;
    }

    private int threadsUp(Work work) {
        loom.weave(told, work, 0);
        int many = 0;
        for (int p = 0; p < loom.picks; p++) {
            many += Integer.bitCount(loom.rows[p]);
        }
        return many;
    }

    // ---- classes inside -----------------------------------------------------

    /** An EXPR behind its operands' order (postfix), so that one loop over a short stack works it out. */
    private static final class Formula {
        static final int NOT = 0;
        static final int OR = 1;
        static final int AND = 2;
        static final int LESS = 3;
        static final int EQUAL = 4;
        static final int PLUS = 5;
        static final int MINUS = 6;
        static final int TIMES = 7;
        static final int OVER = 8;
        static final int FIRST_VALUE = 16;
        static final int FIRST_NUMBER = 32;
        // Six EXPRs within each other leave at most five operands open each.
        private static final int STACK = 64;

        private final int[] codes = new int[MOST_BYTES];
        private final int[] stack = new int[STACK];
        private int size = 0;
        private int used = 0;

        void clear() {
            size = 0;
            used = 0;
        }

        boolean isTold() {
            return size > 0;
        }

        boolean uses(int value) {
            return (used >> value & 1) == 1;
        }

        void emit(int code) {
            if (size < codes.length) {
                codes[size] = code;
                size++;
            }
        }

        void emitValue(int value) {
            emit(FIRST_VALUE + value);
            used |= 1 << value;
        }

        int worth(int[] values) {
            int top = 0;
            for (int i = 0; i < size; i++) {
                int code = codes[i];
                if (code >= FIRST_VALUE) {
                    if (top >= STACK) {
                        return 0;
                    }
                    int value = code - FIRST_VALUE;
                    stack[top] = code >= FIRST_NUMBER ? code - FIRST_NUMBER : value < values.length ? values[value] : 0;
                    top++;
                } else if (code == NOT) {
                    if (top < 1) {
                        return 0;
                    }
                    stack[top - 1] = stack[top - 1] == 0 ? 1 : 0;
                } else {
                    if (top < 2) {
                        return 0;
                    }
                    top--;
                    stack[top - 1] = joined(code, stack[top - 1], stack[top]);
                }
            }
            return top < 1 ? 0 : stack[0];
        }

        private static int joined(int code, int a, int b) {
            switch (code) {
                case OR: return a != 0 || b != 0 ? 1 : 0;
                case AND: return a != 0 && b != 0 ? 1 : 0;
                case LESS: return a < b ? 1 : 0;
                case EQUAL: return a == b ? 1 : 0;
                case PLUS: return a + b;
                case MINUS: return a - b;
                case TIMES: return a * b;
                default: return b == 0 ? 0 : a / b;
            }
        }
    }

    /** What a text tells, and what stays so until the next one. */
    private static final class Told {
        final int[] holes = new int[MOST_CARDS];
        final int[] wants = new int[MOST_CARDS];
        final int[] wear = new int[MOST_CARDS];
        final int[] laced = new int[MOST_PICKS];
        final int[] figureWants = new int[MOST_FIGURES];
        final int[] widths = new int[MOST_FIGURES];
        final int[] heights = new int[MOST_FIGURES];
        final int[] rows = new int[MOST_FIGURES * MOST_ROWS];
        final Formula up = new Formula();
        final Formula harm = new Formula();
        boolean threadsTold = false;
        int threads = 8;
        int all = 255;
        int cards = 0;
        int picks = 0;
        int figures = 0;

        void clear() {
            threadsTold = false;
            useThreads(8);
            cards = 0;
            picks = 0;
            figures = 0;
            Arrays.fill(rows, 0);
            Arrays.fill(heights, 0);
            up.clear();
            harm.clear();
        }

        void useThreads(int many) {
            threads = many;
            all = (1 << many) - 1;
        }

        int turned(int bits) {
            int backward = 0;
            for (int t = 0; t < threads; t++) {
                backward = backward << 1 | bits >> t & 1;
            }
            return backward;
        }

        int had(Work work, int card) {
            return work.wear[card] >= SMOOTH ? all : work.holes[card];
        }
    }

    /** The tape, and the reading of it: the first FAULT stops all reading. */
    private static final class Reader {
        private static final int END = 0;
        private static final int WORD = 1;
        private static final int NUMBER = 2;
        private static final int SIGN = 3;
        private static final int UNFIT = 1;
        private static final int TOO_MUCH = 2;
        private static final int UNKNOWN = 3;
        private static final int AGAIN = 5;
        private static final int MOST_DIGITS = 4;
        private static final int MOST_WITHIN = 6;
        private static final int MOST_NOTS = 6;

        private final byte[] tape = new byte[MOST_BYTES];
        int size = 0;
        private int length = 0;
        private int start = 0;
        private int after = 0;
        private int kind = END;
        private int number = 0;
        private int digits = 0;
        private int problem = 0;
        int place = NONE;

        void append(int fourBytes) {
            for (int shift = 24; shift >= 0 && size < MOST_BYTES; shift -= 8) {
                tape[size] = (byte) (fourBytes >> shift);
                size++;
            }
        }

        /** Reads the first n bytes into a draft: 0, or the FAULT, whose place is kept. */
        int read(int n, Told draft) {
            length = Math.max(0, Math.min(n, MOST_BYTES));
            after = 0;
            problem = 0;
            place = NONE;
            draft.clear();
            advance();
            for (int i = 0; i < MOST_BYTES && problem == 0 && kind != END; i++) {
                readLine(draft);
            }
            return problem;
        }

        private void fail(int fault) {
            if (problem == 0) {
                problem = fault;
                place = start;
            }
        }

        private void advance() {
            int i = after;
            while (i < length && (tape[i] == 32 || tape[i] == 10)) {
                i++;
            }
            start = i;
            kind = END;
            if (i < length) {
                i = isLetter(i) ? scanWord(i) : isDigit(i) ? scanNumber(i) : i + 1;
                if (kind == END) {
                    // Bytes that are no sign of the language are taken for signs that fit nowhere.
                    kind = SIGN;
                }
            }
            after = i;
        }

        private boolean isLetter(int i) {
            return i < length && tape[i] >= 'a' && tape[i] <= 'z';
        }

        private boolean isDigit(int i) {
            return i < length && tape[i] >= '0' && tape[i] <= '9';
        }

        private int scanWord(int from) {
            int i = from;
            while (i < length && isLetter(i)) {
                i++;
            }
            kind = WORD;
            return i;
        }

        private int scanNumber(int from) {
            int i = from;
            number = 0;
            while (i < length && isDigit(i)) {
                number = number * 10 + tape[i] - '0';
                i++;
            }
            digits = i - from;
            kind = NUMBER;
            return i;
        }

        private boolean isSign(char sign) {
            return kind == SIGN && start < length && tape[start] == sign;
        }

        private boolean isWord(String word) {
            if (kind != WORD || after - start != word.length()) {
                return false;
            }
            for (int i = 0; i < word.length(); i++) {
                if (start + i >= length || tape[start + i] != word.charAt(i)) {
                    return false;
                }
            }
            return true;
        }

        private void needSign(char sign) {
            if (problem != 0) {
                return;
            }
            if (isSign(sign)) {
                advance();
            } else {
                fail(UNFIT);
            }
        }

        private int readNumber(int least, int most) {
            if (problem != 0) {
                return least;
            }
            int found = number;
            if (kind != NUMBER) {
                fail(UNFIT);
            } else if (digits > MOST_DIGITS || found < least || found > most) {
                fail(TOO_MUCH);
            } else {
                advance();
                return found;
            }
            return least;
        }

        private void readLine(Told draft) {
            if (isWord("threads")) {
                readThreads(draft);
            } else if (isWord("card")) {
                readCard(draft);
            } else if (isWord("lace")) {
                readLace(draft);
            } else if (isWord("figure")) {
                readFigure(draft);
            } else if (isWord("up")) {
                readRule(draft.up, true);
            } else if (isWord("harm")) {
                readRule(draft.harm, false);
            } else {
                fail(UNFIT);
            }
            needSign(';');
        }

        private void readThreads(Told draft) {
            if (draft.threadsTold) {
                fail(AGAIN);
                return;
            }
            advance();
            draft.threadsTold = true;
            draft.useThreads(readNumber(2, MOST_THREADS));
        }

        private void readCard(Told draft) {
            int card = draft.cards;
            if (card >= MOST_CARDS) {
                fail(TOO_MUCH);
                return;
            }
            advance();
            draft.holes[card] = readNumber(0, 4095);
            draft.wants[card] = readNumber(0, 9);
            draft.wear[card] = readNumber(0, SMOOTH);
            draft.cards++;
        }

        private void readLace(Told draft) {
            if (draft.picks > 0) {
                fail(AGAIN);
                return;
            }
            advance();
            readLaced(draft);
            for (int i = 0; i < MOST_BYTES && problem == 0 && kind == NUMBER; i++) {
                readLaced(draft);
            }
        }

        private void readLaced(Told draft) {
            if (kind != NUMBER) {
                fail(UNFIT);
            } else if (digits > MOST_DIGITS || draft.picks >= MOST_PICKS) {
                fail(TOO_MUCH);
            } else if (number >= draft.cards) {
                fail(UNKNOWN);
            } else {
                draft.laced[draft.picks] = number;
                draft.picks++;
                advance();
            }
        }

        private void readFigure(Told draft) {
            int figure = draft.figures;
            if (figure >= MOST_FIGURES) {
                fail(TOO_MUCH);
                return;
            }
            advance();
            draft.figureWants[figure] = readNumber(0, 9);
            int width = readNumber(1, 4);
            draft.widths[figure] = width;
            for (int row = 0; row < MOST_ROWS && problem == 0 && (row == 0 || kind == NUMBER); row++) {
                draft.rows[figure * MOST_ROWS + row] = readNumber(0, (1 << width) - 1);
                draft.heights[figure] = row + 1;
            }
            draft.figures++;
        }

        private void readRule(Formula rule, boolean ofUp) {
            if (rule.isTold()) {
                fail(AGAIN);
                return;
            }
            advance();
            readExpr(rule, ofUp, 0);
        }

        private void readExpr(Formula rule, boolean ofUp, int within) {
            if (within >= MOST_WITHIN && (kind == NUMBER || kind == WORD || isSign('('))) {
                fail(TOO_MUCH);
                return;
            }
            readAnd(rule, ofUp, within);
            for (int i = 0; i < MOST_BYTES && problem == 0 && isWord("or"); i++) {
                advance();
                readAnd(rule, ofUp, within);
                rule.emit(Formula.OR);
            }
        }

        private void readAnd(Formula rule, boolean ofUp, int within) {
            readNot(rule, ofUp, within);
            for (int i = 0; i < MOST_BYTES && problem == 0 && isWord("and"); i++) {
                advance();
                readNot(rule, ofUp, within);
                rule.emit(Formula.AND);
            }
        }

        private void readNot(Formula rule, boolean ofUp, int within) {
            int nots = 0;
            while (nots < MOST_NOTS && isWord("not")) {
                advance();
                nots++;
            }
            if (isWord("not")) {
                fail(TOO_MUCH);
                return;
            }
            readTest(rule, ofUp, within);
            for (int i = 0; i < nots; i++) {
                rule.emit(Formula.NOT);
            }
        }

        private void readTest(Formula rule, boolean ofUp, int within) {
            readSum(rule, ofUp, within);
            if (problem == 0 && (isSign('<') || isSign('='))) {
                int code = isSign('<') ? Formula.LESS : Formula.EQUAL;
                advance();
                readSum(rule, ofUp, within);
                rule.emit(code);
            }
        }

        private void readSum(Formula rule, boolean ofUp, int within) {
            readProduct(rule, ofUp, within);
            for (int i = 0; i < MOST_BYTES && problem == 0 && (isSign('+') || isSign('-')); i++) {
                int code = isSign('+') ? Formula.PLUS : Formula.MINUS;
                advance();
                readProduct(rule, ofUp, within);
                rule.emit(code);
            }
        }

        private void readProduct(Formula rule, boolean ofUp, int within) {
            readPart(rule, ofUp, within);
            for (int i = 0; i < MOST_BYTES && problem == 0 && (isSign('*') || isSign('/')); i++) {
                int code = isSign('*') ? Formula.TIMES : Formula.OVER;
                advance();
                readPart(rule, ofUp, within);
                rule.emit(code);
            }
        }

        private void readPart(Formula rule, boolean ofUp, int within) {
            if (kind == NUMBER) {
                rule.emit(Formula.FIRST_NUMBER + readNumber(0, 9999));
            } else if (kind == WORD) {
                int value = ofUp ? valueOfUp() : valueOfHarm();
                if (value == NONE) {
                    fail(UNKNOWN);
                    return;
                }
                rule.emitValue(value);
                advance();
            } else if (isSign('(') && within < MOST_WITHIN) {
                advance();
                readExpr(rule, ofUp, within + 1);
                needSign(')');
            } else {
                fail(UNFIT);
            }
        }

        private int valueOfUp() {
            return isWord("hole") ? Loom.HOLE
                    : isWord("beside") ? Loom.BESIDE
                    : isWord("ahead") ? Loom.AHEAD
                    : isWord("pick") ? Loom.PICK
                    : isWord("thread") ? Loom.THREAD
                    : isWord("wear") ? Loom.WEAR : NONE;
        }

        private int valueOfHarm() {
            return isWord("holes") ? Tangle.HOLES
                    : isWord("alike") ? Tangle.ALIKE
                    : isWord("first") ? Tangle.FIRST
                    : isWord("second") ? Tangle.SECOND : NONE;
        }
    }

    /** What acts and Sundays alter. */
    private static final class Work {
        final int[] holes = new int[MOST_CARDS];
        final int[] wear = new int[MOST_CARDS];
        final int[] laced = new int[MOST_PICKS];
        int picks = 0;
        int sunday = 0;
        int grants = 0;

        void begin(Told told) {
            for (int card = 0; card < MOST_CARDS; card++) {
                // THREADS may be told behind the cards, so only now is it known which holes are none.
                holes[card] = told.holes[card] & told.all;
            }
            System.arraycopy(told.wear, 0, wear, 0, MOST_CARDS);
            System.arraycopy(told.laced, 0, laced, 0, MOST_PICKS);
            picks = told.picks;
            sunday = 0;
            grants = 0;
        }

        void copy(Work other) {
            System.arraycopy(other.holes, 0, holes, 0, MOST_CARDS);
            System.arraycopy(other.wear, 0, wear, 0, MOST_CARDS);
            System.arraycopy(other.laced, 0, laced, 0, MOST_PICKS);
            picks = other.picks;
            sunday = other.sunday;
            grants = other.grants;
        }

        int placesOf(int card) {
            int bits = 0;
            for (int p = 0; p < picks; p++) {
                if (laced[p] == card) {
                    bits |= 1 << p;
                }
            }
            return bits;
        }

        void wearOn() {
            for (int card = 0; card < MOST_CARDS; card++) {
                if (wear[card] < SMOOTH && placesOf(card) != 0) {
                    wear[card]++;
                }
            }
        }

        void exchange(int place, int other) {
            int card = laced[place];
            laced[place] = laced[other];
            laced[other] = card;
        }

        void leaveOut(int place) {
            for (int p = place; p + 1 < picks; p++) {
                laced[p] = laced[p + 1];
            }
            picks--;
        }

        // Ten cards of four bits each, so that an act keeps all wear in one number.
        long packedWear() {
            long packed = 0L;
            for (int card = MOST_CARDS - 1; card >= 0; card--) {
                packed = packed << 4 | wear[card];
            }
            return packed;
        }

        void unpackWear(long packed) {
            for (int card = 0; card < MOST_CARDS; card++) {
                wear[card] = (int) (packed >> 4 * card & 15L);
            }
        }
    }

    /** The latest acts, each with what it altered as it was ahead of it. */
    private static final class Acts {
        static final int SUNDAYS = 0;
        static final int HOLES = 1;
        static final int WEAR = 2;
        static final int PLACES = 3;

        private final int[] kinds = new int[MOST_ACTS];
        private final int[] firsts = new int[MOST_ACTS];
        private final int[] seconds = new int[MOST_ACTS];
        private final long[] wears = new long[MOST_ACTS];
        int size = 0;

        void keep(int kind, int first, int second, long wear) {
            if (size >= MOST_ACTS) {
                dropOldest();
            }
            kinds[size] = kind;
            firsts[size] = first;
            seconds[size] = second;
            wears[size] = wear;
            size++;
        }

        private void dropOldest() {
            System.arraycopy(kinds, 1, kinds, 0, MOST_ACTS - 1);
            System.arraycopy(firsts, 1, firsts, 0, MOST_ACTS - 1);
            System.arraycopy(seconds, 1, seconds, 0, MOST_ACTS - 1);
            System.arraycopy(wears, 1, wears, 0, MOST_ACTS - 1);
            size = MOST_ACTS - 1;
        }

        void takeBack(Work work) {
            if (size < 1) {
                return;
            }
            size--;
            int first = firsts[size];
            int second = seconds[size];
            switch (kinds[size]) {
                case HOLES:
                    work.holes[first] = second;
                    break;
                case WEAR:
                    work.wear[first] = second;
                    break;
                case PLACES:
                    work.exchange(first, second);
                    break;
                default:
                    work.sunday = first;
                    work.grants = second;
                    work.unpackWear(wears[size]);
                    break;
            }
        }

        void copy(Acts other) {
            System.arraycopy(other.kinds, 0, kinds, 0, MOST_ACTS);
            System.arraycopy(other.firsts, 0, firsts, 0, MOST_ACTS);
            System.arraycopy(other.seconds, 0, seconds, 0, MOST_ACTS);
            System.arraycopy(other.wears, 0, wears, 0, MOST_ACTS);
            size = other.size;
        }
    }

    /** What was seen, by Sundays from the least on, so that what is seen on one Sunday is woven once. */
    private static final class Seen {
        final int[] picks = new int[MOST_SEEN];
        final int[] threads = new int[MOST_SEEN];
        final int[] behind = new int[MOST_SEEN];
        final boolean[] ups = new boolean[MOST_SEEN];
        int size = 0;

        void add(int pick, int thread, int sundays, boolean up) {
            if (size >= MOST_SEEN) {
                return;
            }
            int at = size;
            while (at > 0 && behind[at - 1] > sundays) {
                picks[at] = picks[at - 1];
                threads[at] = threads[at - 1];
                behind[at] = behind[at - 1];
                ups[at] = ups[at - 1];
                at--;
            }
            picks[at] = pick;
            threads[at] = thread;
            behind[at] = sundays;
            ups[at] = up;
            size++;
        }

        void copy(Seen other) {
            for (int i = 0; i < MOST_SEEN; i++) {
                picks[i] = other.picks[i];
                threads[i] = other.threads[i];
                behind[i] = other.behind[i];
                ups[i] = other.ups[i];
            }
            size = other.size;
        }
    }

    /** Weaves cloth, a whole row of threads at once, and looks at it. */
    private static final class Loom {
        static final int HOLE = 0;
        static final int BESIDE = 1;
        static final int AHEAD = 2;
        static final int PICK = 3;
        static final int THREAD = 4;
        static final int WEAR = 5;
        // A way is what a thread meets: bit 0 a hole, bit 1 up ahead, bits 2 and 3 how many beside.
        private static final int WAYS = 12;

        final int[] rows = new int[MOST_PICKS];
        int picks = 0;
        private final int[] aside = new int[MOST_PICKS];
        private final int[] values = new int[6];
        // By pick, wear and way: the threads that UP lifts then. A rule is worked out once for each.
        private final int[] lifted = new int[MOST_PICKS * WEARS * WAYS];
        private final int[] known = new int[MOST_PICKS * WEARS];

        /** Another text may tell another UP, or other THREADS. */
        void forgetRule() {
            Arrays.fill(known, 0);
        }

        /** The cloth of a lace behind so many Sundays (on which all laced cards wear on). */
        void weave(Told told, Work work, int sundays) {
            picks = work.picks;
            int ahead = 0;
            for (int p = 0; p < picks; p++) {
                int card = work.laced[p];
                int wear = Math.min(work.wear[card] + sundays, SMOOTH);
                int holes = wear >= SMOOTH ? told.all : work.holes[card];
                int cell = (told.up.uses(PICK) ? p * WEARS : 0) + (told.up.uses(WEAR) ? wear : 0);
                if (known[cell] == 0 && told.up.isTold()) {
                    learn(told, cell, p, wear);
                }
                ahead = told.up.isTold() ? rowBy(cell * WAYS, told.all, holes, ahead) : holes;
                rows[p] = ahead;
            }
        }

        private int rowBy(int at, int all, int holes, int ahead) {
            int left = holes << 1 & all;
            int right = holes >> 1;
            return ~(left | right) & liftedAmong(at, holes, ahead)
                    | (left ^ right) & liftedAmong(at + 4, holes, ahead)
                    | left & right & liftedAmong(at + 8, holes, ahead);
        }

        private int liftedAmong(int at, int holes, int ahead) {
            return ahead & (holes & lifted[at + 3] | ~holes & lifted[at + 2])
                    | ~ahead & (holes & lifted[at + 1] | ~holes & lifted[at]);
        }

        private void learn(Told told, int cell, int pick, int wear) {
            int minded = (told.up.uses(HOLE) ? 1 : 0) | (told.up.uses(AHEAD) ? 2 : 0) | (told.up.uses(BESIDE) ? 12 : 0);
            values[PICK] = pick;
            values[WEAR] = wear;
            for (int way = 0; way < WAYS; way++) {
                int like = way & minded;
                // What the rule never looks at makes no other row.
                lifted[cell * WAYS + way] = like < way ? lifted[cell * WAYS + like] : workOut(told, way);
            }
            known[cell] = 1;
        }

        private int workOut(Told told, int way) {
            values[HOLE] = way & 1;
            values[AHEAD] = way >> 1 & 1;
            values[BESIDE] = way >> 2;
            values[THREAD] = 0;
            if (!told.up.uses(THREAD)) {
                return told.up.worth(values) != 0 ? told.all : 0;
            }
            int bits = 0;
            for (int t = 0; t < told.threads; t++) {
                values[THREAD] = t;
                if (told.up.worth(values) != 0) {
                    bits |= 1 << t;
                }
            }
            return bits;
        }

        void keepAside() {
            System.arraycopy(rows, 0, aside, 0, MOST_PICKS);
        }

        /** The threads that are not as in the cloth laid aside, as bits. */
        int unlikeAside() {
            int bits = 0;
            for (int p = 0; p < picks; p++) {
                bits |= rows[p] ^ aside[p];
            }
            return bits;
        }

        boolean isAsMovedBy(int by) {
            for (int p = 0; p + by < picks; p++) {
                if (rows[p] != rows[p + by]) {
                    return false;
                }
            }
            return true;
        }

        int floatOf(int thread) {
            int longest = 0;
            int run = 0;
            for (int p = 0; p < picks; p++) {
                boolean goesOn = p > 0 && (rows[p] >> thread & 1) == (rows[p - 1] >> thread & 1);
                run = goesOn ? run + 1 : 1;
                longest = Math.max(longest, run);
            }
            return longest;
        }

        /** The threads from which on a figure stands at a pick, as bits. */
        int startsAt(Told told, int figure, int pick) {
            int width = told.widths[figure];
            int height = told.heights[figure];
            int last = told.threads - width;
            if (last < 0 || pick + height > picks) {
                return 0;
            }
            int fit = (2 << last) - 1;
            for (int r = 0; r < height && fit != 0; r++) {
                int row = told.rows[figure * MOST_ROWS + r];
                for (int k = 0; k < width; k++) {
                    int moved = rows[pick + r] >> k;
                    fit &= (row >> k & 1) == 1 ? moved : ~moved;
                }
            }
            return fit;
        }

        boolean isAnywhere(Told told, int figure) {
            for (int p = 0; p < picks; p++) {
                if (startsAt(told, figure, p) != 0) {
                    return true;
                }
            }
            return false;
        }

        int standing(Told told) {
            int bits = 0;
            for (int f = 0; f < told.figures; f++) {
                if (isAnywhere(told, f)) {
                    bits |= 1 << f;
                }
            }
            return bits;
        }

        /** The picks whose every thread that is up has a hole among these, as bits. */
        int coatsFor(int holes) {
            int bits = 0;
            for (int p = 0; p < picks; p++) {
                if ((rows[p] & ~holes) == 0) {
                    bits |= 1 << p;
                }
            }
            return bits;
        }
    }

    /**
     * Which sets of holes, punched in one card, are good for every thread. A thread hangs on the holes at it
     * and next to it alone; in holes that repeat by threes these come in all eight ways at every thread, so
     * eight woven patterns tell of all sets.
     */
    private static final class Sieve {
        static final int PATTERNS = 8;
        private static final int EVERY_THIRD = 0x249;

        final int[] patterns = new int[PATTERNS];
        /** By patterns: the threads for which it is good, as bits. */
        final int[] good = new int[PATTERNS];
        private int all = 0;

        void begin(int allThreads) {
            all = allThreads;
            for (int i = 0; i < PATTERNS; i++) {
                int holes = 0;
                for (int k = 0; k < 3; k++) {
                    holes |= (i >> k & 1) == 1 ? EVERY_THIRD << k : 0;
                }
                patterns[i] = holes & all;
                good[i] = 0;
            }
        }

        private boolean passes(int holes) {
            int fit = 0;
            for (int i = 0; i < PATTERNS; i++) {
                int otherwise = holes ^ patterns[i];
                fit |= good[i] & ~(otherwise | otherwise << 1 | otherwise >> 1);
            }
            return fit == all;
        }

        int countPassing() {
            int many = 0;
            for (int holes = 0; holes <= all; holes++) {
                if (passes(holes)) {
                    many++;
                }
            }
            return many;
        }

        int leastPassing() {
            for (int holes = 0; holes <= all; holes++) {
                if (passes(holes)) {
                    return holes;
                }
            }
            return NONE;
        }
    }

    /** Snarls of cards side by side, and the lace with fewest of them. */
    private static final class Tangle {
        static final int HOLES = 0;
        static final int ALIKE = 1;
        static final int FIRST = 2;
        static final int SECOND = 3;
        private static final int MOST_HARM = 99;
        private static final int FAR_TOO_MUCH = 1000000;

        private final int[] values = new int[4];
        private final int[] pairs = new int[MOST_CARDS * MOST_CARDS];
        // By the places laced already (as bits) and the last of them: the least snarl behind it.
        private final int[] rest = new int[(1 << MOST_ORDERED) * MOST_ORDERED];

        int between(Told told, int card, int holes, int other, int otherHoles) {
            int both = Integer.bitCount(holes & otherHoles);
            int alike = told.wants[card] == told.wants[other] ? 1 : 0;
            if (!told.harm.isTold()) {
                return both * alike;
            }
            values[HOLES] = both;
            values[ALIKE] = alike;
            values[FIRST] = told.wants[card];
            values[SECOND] = told.wants[other];
            return Math.max(0, Math.min(told.harm.worth(values), MOST_HARM));
        }

        private void learn(Told told, Work work) {
            for (int card = 0; card < told.cards; card++) {
                for (int other = 0; other < told.cards; other++) {
                    pairs[card * MOST_CARDS + other] =
                            between(told, card, told.had(work, card), other, told.had(work, other));
                }
            }
        }

        private int pairAt(Work work, int place, int other) {
            return pairs[work.laced[place] * MOST_CARDS + work.laced[other]];
        }

        private int sumOf(Work work) {
            int sum = 0;
            for (int p = 0; p + 1 < work.picks; p++) {
                sum += pairAt(work, p, p + 1);
            }
            return sum;
        }

        int ofLace(Told told, Work work) {
            learn(told, work);
            return sumOf(work);
        }

        /** 100 by the lesser place and the other one, whose change leaves least snarl; NONE if none is less. */
        int bestExchange(Told told, Work work) {
            learn(told, work);
            int least = sumOf(work);
            int best = NONE;
            for (int place = 0; place < work.picks; place++) {
                for (int other = place + 1; other < work.picks; other++) {
                    work.exchange(place, other);
                    int sum = sumOf(work);
                    work.exchange(place, other);
                    if (sum < least) {
                        least = sum;
                        best = 100 * place + other;
                    }
                }
            }
            return best;
        }

        /** The least snarl of all orders (i NONE), or the place that comes to the i-th in the first such order. */
        int bestOrder(Told told, Work work, int i) {
            if (work.picks < 1 || work.picks > MOST_ORDERED) {
                return 0;
            }
            learn(told, work);
            int full = (1 << work.picks) - 1;
            for (int laced = full; laced > 0; laced--) {
                for (int last = 0; last < work.picks; last++) {
                    if ((laced >> last & 1) == 1) {
                        rest[laced * MOST_ORDERED + last] = laced == full ? 0 : leastBehind(work, laced, last);
                    }
                }
            }
            return i == NONE ? leastBehind(work, 0, NONE) : walkTo(work, i);
        }

        private int leastBehind(Work work, int laced, int last) {
            int least = FAR_TOO_MUCH;
            for (int place = 0; place < work.picks; place++) {
                if ((laced >> place & 1) == 0) {
                    least = Math.min(least, stepTo(work, laced, last, place));
                }
            }
            return least;
        }

        private int stepTo(Work work, int laced, int last, int place) {
            int step = last == NONE ? 0 : pairAt(work, last, place);
            return step + rest[(laced | 1 << place) * MOST_ORDERED + place];
        }

        private int walkTo(Work work, int i) {
            int laced = 0;
            int last = NONE;
            for (int at = 0; at <= i && at < work.picks; at++) {
                int best = NONE;
                for (int place = 0; place < work.picks; place++) {
                    boolean free = (laced >> place & 1) == 0;
                    if (free && (best == NONE || stepTo(work, laced, last, place) < stepTo(work, laced, last, best))) {
                        best = place;
                    }
                }
                if (best == NONE) {
                    return last;
                }
                laced |= 1 << best;
                last = best;
            }
            return last;
        }
    }

    /** Deals coats to cards: as many as can be, and of these ways the first one. */
    private static final class Wardrobe {
        final int[] wearable = new int[MOST_CARDS];
        final int[] dealt = new int[MOST_CARDS];
        private final int[] owners = new int[MOST_PICKS];
        private int cards = 0;
        private int tried = 0;

        void clear(int many) {
            cards = many;
            Arrays.fill(dealt, NONE);
        }

        /** Fills the row of coats by cards; how many are dealt. */
        int deal() {
            int free = (1 << MOST_PICKS) - 1;
            int most = mostFrom(0, free);
            int left = most;
            for (int card = 0; card < cards; card++) {
                for (int p = 0; p < MOST_PICKS && dealt[card] == NONE; p++) {
                    int without = free & ~(1 << p);
                    boolean fits = (wearable[card] & free & 1 << p) != 0;
                    if (fits && mostFrom(card + 1, without) == left - 1) {
                        dealt[card] = p;
                        free = without;
                        left--;
                    }
                }
            }
            return most;
        }

        private int mostFrom(int from, int free) {
            Arrays.fill(owners, NONE);
            int many = 0;
            for (int card = from; card < cards; card++) {
                tried = 0;
                if (findCoat(card, free, 0)) {
                    many++;
                }
            }
            return many;
        }

        // A card may take another one's coat if that one finds another: each deeper step is another card's.
        private boolean findCoat(int card, int free, int depth) {
            if (depth > MOST_CARDS || card < 0 || card >= cards) {
                return false;
            }
            for (int p = 0; p < MOST_PICKS; p++) {
                if ((wearable[card] & free & ~tried & 1 << p) != 0) {
                    tried |= 1 << p;
                    if (owners[p] == NONE || findCoat(owners[p], free, depth + 1)) {
                        owners[p] = card;
                        return true;
                    }
                }
            }
            return false;
        }
    }
}
