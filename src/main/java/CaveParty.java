import java.util.Arrays;

/**
 * A search party for caves: one who wanders unseen and as fast as can be must be met.
 *
 * Sets of caves and of passages are held as the bits of an int. Of what is lost only the caves are
 * kept: behind each order a passage is lost just if a cave at it is lost (a lost passage with an end
 * where none stands makes that end lost, and one with searchers at both ends is searched).
 */
public final class CaveParty {
    public static final int NONE = -1;

    private static final int MOST_CAVES = 12;
    private static final int MOST_PASSAGES = 18;
    private static final int MOST_BELOW = 9;
    private static final int MOST_ORDERS = 200;

    private static final int PUT = 0;
    private static final int LIFT = 1;
    private static final int SLIDE = 2;
    private static final int GUARD = 3;

    private static final int ANY_ORDERS = 0;
    private static final int PUTS_AHEAD = 1;
    private static final int FROM_THE_MOUTH = 2;

    private static final int SOLVED_CAVES = 6;
    private static final int SOLVED_PASSAGES = 8;
    private static final int SOLVED_PARTY = 3;
    private static final int NO_WITNESS = -2;

    private final Ground ground;
    private final Search search;
    private final Layout layout;
    private final Finder finder;
    private final Stand replay;
    private Way way;

    public CaveParty() {
        ground = new Ground();
        search = new Search(ground);
        layout = new Layout(ground);
        finder = new Finder(ground);
        replay = new Stand();
        way = null;
    }

    public boolean caves(int n) {
        if (n < 0 || n > MOST_CAVES) {
            return false;
        }
        ground.clear(n);
        layout.reset();
        forgetSearchAndPlan();
        return true;
    }

    public int passage(int a, int b) {
        int p = ground.lowestFree();
        if (a == b || !ground.hasCave(a) || !ground.hasCave(b) || p == NONE) {
            return NONE;
        }
        ground.dig(p, a, b);
        forgetSearchAndPlan();
        return p;
    }

    public boolean drop(int p) {
        if (!ground.hasPassage(p)) {
            return false;
        }
        ground.fillUp(p);
        forgetSearchAndPlan();
        return true;
    }

    public boolean mouth(int c) {
        if (!ground.hasCave(c)) {
            return false;
        }
        ground.mouth = c;
        return true;
    }

    public int order(int what, int c, int p) {
        if (what < PUT || what > GUARD || !ground.hasCave(c)) {
            return NONE;
        }
        if (what >= SLIDE && !ground.leadsFrom(p, c)) {
            return NONE;
        }
        if (search.done >= MOST_ORDERS) {
            return NONE;
        }
        return search.carryOut(what, c, what >= SLIDE ? p : NONE) ? 1 : 0;
    }

    public boolean undo() {
        return search.takeBack();
    }

    public void anew() {
        search.begin();
    }

    public int count(int what) {
        switch (what) {
            case 0: return search.done;
            case 1: return search.now.total;
            case 2: return search.party;
            case 3: return Integer.bitCount(search.now.lost);
            case 4: return Integer.bitCount(ground.passagesAt(search.now.lost));
            case 5: return search.now.lost == 0 ? 1 : 0;
            case 6: return ground.caves;
            case 7: return Integer.bitCount(ground.dug);
            case 8: return ground.mouth;
            case 9: return ground.parts();
            case 10: return ground.isTree() ? 1 : 0;
            default: return NONE;
        }
    }

    public int look(int which, int what) {
        if (what < 4) {
            return ground.hasCave(which) ? lookAtCave(which, what) : NONE;
        }
        return ground.hasPassage(which) ? lookAtPassage(which, what) : NONE;
    }

    public int fewest(int law) {
        way = null;
        if (!canBeSolved(law)) {
            return NONE;
        }
        for (int k = 1; k <= SOLVED_PARTY; k++) {
            if (finder.finds(law, k)) {
                way = finder.wayToGoal();
                return k;
            }
        }
        return SOLVED_PARTY + 1;
    }

    public int plan(int i, int what) {
        if (way == null) {
            return NONE;
        }
        if (i == NONE && what == 0) {
            return way.length();
        }
        return way.tell(i, what);
    }

    public int witness(int law, int k) {
        if (!canBeSolved(law) || k < 1 || k > SOLVED_PARTY) {
            return NONE;
        }
        return finder.finds(law, k) ? NO_WITNESS : finder.met;
    }

    public int judge(int law) {
        if (!isLaw(law) || ground.caves == 0) {
            return NONE;
        }
        return isPlanBy(law) ? 1 : 0;
    }

    public boolean place(int i, int c) {
        if (!ground.hasCave(i) || !ground.hasCave(c)) {
            return false;
        }
        layout.swapIn(i, c);
        return true;
    }

    public int cut(int i) {
        if (i < 0 || i > ground.caves) {
            return NONE;
        }
        return i == 0 ? layout.greatestCut() : layout.cutBehind(i);
    }

    public int width() {
        if (ground.caves == 0) {
            return NONE;
        }
        return layout.becomeTheLeast();
    }

    private void forgetSearchAndPlan() {
        search.begin();
        way = null;
    }

    private int lookAtCave(int c, int what) {
        switch (what) {
            case 0: return search.now.below[c];
            case 1: return search.now.lost >> c & 1;
            case 2: return Integer.bitCount(ground.at[c]);
            case 3: return layout.placeOf(c);
            default: return NONE;
        }
    }

    private int lookAtPassage(int p, int what) {
        switch (what) {
            case 4: return ground.lesser[p];
            case 5: return ground.greater[p];
            case 6: return ground.passagesAt(search.now.lost) >> p & 1;
            case 7: return search.passagesJustLost() >> p & 1;
            default: return NONE;
        }
    }

    private boolean canBeSolved(int law) {
        return isLaw(law)
            && ground.caves > 0
            && ground.caves <= SOLVED_CAVES
            && Integer.bitCount(ground.dug) <= SOLVED_PASSAGES;
    }

    private boolean isPlanBy(int law) {
        boolean slid = false;
        replay.begin(ground);
        for (int i = 0; i < search.done && i < MOST_ORDERS; i++) {
            int what = search.what[i];
            int c = search.cave[i];
            if (replay.lost == 0 || !ground.allows(law, what, c, slid)) {
                return false;
            }
            replay.follow(ground, what, c, search.passage[i]);
            slid = slid || what >= SLIDE;
            if (law == FROM_THE_MOUTH && !ground.hangsTogether(replay.lost, replay.guarded)) {
                return false;
            }
        }
        return replay.lost == 0;
    }

    private static boolean isLaw(int law) {
        return law >= ANY_ORDERS && law <= FROM_THE_MOUTH;
    }

    /** The caves, the passages and the mouth: all that stays as it is while one searches. */
    private static final class Ground {
        private int caves;
        private int dug;
        private int mouth;
        private final int[] lesser = new int[MOST_PASSAGES];
        private final int[] greater = new int[MOST_PASSAGES];
        private final int[] at = new int[MOST_CAVES];
        private final int[] next = new int[MOST_CAVES];

        void clear(int n) {
            caves = n;
            dug = 0;
            mouth = 0;
            linkCaves();
        }

        boolean hasCave(int c) {
            return c >= 0 && c < caves;
        }

        boolean hasPassage(int p) {
            return p >= 0 && p < MOST_PASSAGES && (dug >> p & 1) != 0;
        }

        boolean leadsFrom(int p, int c) {
            return hasPassage(p) && (lesser[p] == c || greater[p] == c);
        }

        int lowestFree() {
            for (int p = 0; p < MOST_PASSAGES; p++) {
                if ((dug >> p & 1) == 0) {
                    return p;
                }
            }
            return NONE;
        }

        void dig(int p, int a, int b) {
            lesser[p] = Math.min(a, b);
            greater[p] = Math.max(a, b);
            dug |= 1 << p;
            linkCaves();
        }

        void fillUp(int p) {
            dug &= ~(1 << p);
            linkCaves();
        }

        /** Made anew as a whole, since another passage may still join the ends of one that is gone. */
        private void linkCaves() {
            Arrays.fill(at, 0);
            Arrays.fill(next, 0);
            for (int p = 0; p < MOST_PASSAGES; p++) {
                if (hasPassage(p)) {
                    int a = lesser[p];
                    int b = greater[p];
                    at[a] |= 1 << p;
                    at[b] |= 1 << p;
                    next[a] |= 1 << b;
                    next[b] |= 1 << a;
                }
            }
        }

        int allCaves() {
            return (1 << caves) - 1;
        }

        int otherEnd(int p, int c) {
            return lesser[p] == c ? greater[p] : lesser[p];
        }

        int passagesAt(int someCaves) {
            int found = 0;
            for (int c = 0; c < caves; c++) {
                if ((someCaves >> c & 1) != 0) {
                    found |= at[c];
                }
            }
            return found;
        }

        /** All caves that can be come to from some without going into a barred one. */
        int spread(int some, int barred) {
            int reached = some;
            int fresh = some;
            for (int round = 0; round < caves && fresh != 0; round++) {
                int around = 0;
                for (int c = 0; c < caves; c++) {
                    if ((fresh >> c & 1) != 0) {
                        around |= next[c];
                    }
                }
                fresh = around & ~barred & ~reached;
                reached |= fresh;
            }
            return reached;
        }

        /**
         * The lost caves behind an order at cave c, lost being those ahead of it. Only an order that
         * leaves c empty can lose anything: all other caves without searchers had none ahead of it
         * either, so that they already share what is lost at them.
         */
        int lostBehind(int lost, int guarded, int c, int slidAlong) {
            int still = lost & ~guarded;
            if ((guarded >> c & 1) != 0) {
                return still;
            }
            int lostHere = at[c] & passagesAt(lost) & ~slidAlong;
            return lostHere == 0 ? still : spread(still | 1 << c, guarded);
        }

        boolean allows(int law, int what, int c, boolean slid) {
            if (law == ANY_ORDERS) {
                return true;
            }
            if (what == LIFT) {
                return false;
            }
            if (what != PUT) {
                return true;
            }
            return law == PUTS_AHEAD ? !slid : c == mouth;
        }

        /** A searched passage is one between two caves that aren't lost, so none leads from a lost mouth. */
        boolean hangsTogether(int lost, int guarded) {
            int start = 1 << mouth;
            int reached = (lost & start) != 0 ? start : spread(start, lost);
            int searched = dug & ~passagesAt(lost);
            return (guarded & ~reached) == 0 && (searched & ~passagesAt(reached)) == 0;
        }

        int parts() {
            int parts = 0;
            int seen = 0;
            for (int c = 0; c < caves; c++) {
                if ((seen >> c & 1) == 0) {
                    parts++;
                    seen |= spread(1 << c, 0);
                }
            }
            return parts;
        }

        boolean isTree() {
            return parts() == 1 && Integer.bitCount(dug) == caves - 1;
        }

        /** How many of the first caves have a passage to one that isn't among them. */
        int cutBetween(int first) {
            int open = 0;
            for (int c = 0; c < caves; c++) {
                if ((first >> c & 1) != 0 && (next[c] & ~first) != 0) {
                    open++;
                }
            }
            return open;
        }
    }

    /** Who is below in each cave, and which caves are lost. */
    private static final class Stand {
        private final int[] below = new int[MOST_CAVES];
        private int total;
        private int guarded;
        private int lost;

        void begin(Ground ground) {
            Arrays.fill(below, 0);
            total = 0;
            guarded = 0;
            lost = ground.allCaves();
        }

        void follow(Ground ground, int what, int c, int p) {
            if (what != PUT) {
                leave(c);
            }
            if (what == PUT) {
                come(c);
            } else if (what != LIFT) {
                come(ground.otherEnd(p, c));
            }
            lost = ground.lostBehind(lost, guarded, c, what >= SLIDE ? 1 << p : 0);
        }

        void goBack(Ground ground, int what, int c, int p, int lostBefore) {
            if (what == PUT) {
                leave(c);
            } else if (what != LIFT) {
                leave(ground.otherEnd(p, c));
            }
            if (what != PUT) {
                come(c);
            }
            lost = lostBefore;
        }

        private void come(int c) {
            below[c]++;
            total++;
            guarded |= 1 << c;
        }

        private void leave(int c) {
            below[c]--;
            total--;
            if (below[c] == 0) {
                guarded &= ~(1 << c);
            }
        }
    }

    /** The orders that were done, with what each needs to be taken back. */
    private static final class Search {
        private final Ground ground;
        private final Stand now = new Stand();
        private int done;
        private int party;
        private final int[] what = new int[MOST_ORDERS];
        private final int[] cave = new int[MOST_ORDERS];
        private final int[] passage = new int[MOST_ORDERS];
        private final int[] lostBefore = new int[MOST_ORDERS];
        private final int[] partyBefore = new int[MOST_ORDERS];

        Search(Ground ground) {
            this.ground = ground;
        }

        void begin() {
            now.begin(ground);
            done = 0;
            party = 0;
        }

        boolean carryOut(int order, int c, int p) {
            if (done >= MOST_ORDERS || !canBeDone(order, c)) {
                return false;
            }
            int before = now.lost;
            now.follow(ground, order, c, p);
            if (order == GUARD && (now.lost & ~before) != 0) {
                now.goBack(ground, order, c, p, before);
                return false;
            }
            what[done] = order;
            cave[done] = c;
            passage[done] = p;
            lostBefore[done] = before;
            partyBefore[done] = party;
            done++;
            party = Math.max(party, now.total);
            return true;
        }

        private boolean canBeDone(int order, int c) {
            return order == PUT ? now.total < MOST_BELOW : now.below[c] > 0;
        }

        boolean takeBack() {
            int last = done - 1;
            if (last < 0) {
                return false;
            }
            now.goBack(ground, what[last], cave[last], passage[last], lostBefore[last]);
            party = partyBefore[last];
            done = last;
            return true;
        }

        int passagesJustLost() {
            int last = done - 1;
            if (last < 0) {
                return 0;
            }
            return ground.passagesAt(now.lost) & ~ground.passagesAt(lostBefore[last]);
        }
    }

    /** A row of all caves, and the search for the one with the least cut. */
    private static final class Layout {
        private final Ground ground;
        private final int[] row = new int[MOST_CAVES];
        private final int[] worst = new int[1 << MOST_CAVES];

        Layout(Ground ground) {
            this.ground = ground;
        }

        void reset() {
            for (int i = 0; i < MOST_CAVES; i++) {
                row[i] = i;
            }
        }

        int placeOf(int c) {
            for (int i = 0; i < ground.caves; i++) {
                if (row[i] == c) {
                    return i;
                }
            }
            return NONE;
        }

        void swapIn(int i, int c) {
            int j = placeOf(c);
            if (j != NONE) {
                row[j] = row[i];
                row[i] = c;
            }
        }

        int cutBehind(int i) {
            int first = 0;
            for (int j = 0; j < i && j < ground.caves; j++) {
                first |= 1 << row[j];
            }
            return ground.cutBetween(first);
        }

        /** Without caves there is no cut, and so no greatest one. */
        int greatestCut() {
            int greatest = NONE;
            for (int i = 1; i <= ground.caves; i++) {
                greatest = Math.max(greatest, cutBehind(i));
            }
            return greatest;
        }

        int becomeTheLeast() {
            int all = ground.allCaves();
            for (int first = all; first >= 0; first--) {
                worst[first] = Math.max(ground.cutBetween(first), leastWorstBehind(first));
            }
            int least = worst[0];
            int first = 0;
            for (int i = 0; i < ground.caves; i++) {
                row[i] = firstWithin(first, least);
                first |= 1 << row[i];
            }
            return least;
        }

        /** Of the sets with one cave more, the least that their worst cut, here and further on, can be. */
        private int leastWorstBehind(int first) {
            if (first == ground.allCaves()) {
                return 0;
            }
            int least = MOST_CAVES;
            for (int c = 0; c < ground.caves; c++) {
                if ((first >> c & 1) == 0) {
                    least = Math.min(least, worst[first | 1 << c]);
                }
            }
            return least;
        }

        private int firstWithin(int first, int least) {
            for (int c = 0; c < ground.caves; c++) {
                if ((first >> c & 1) == 0 && worst[first | 1 << c] <= least) {
                    return c;
                }
            }
            return 0;
        }
    }

    /**
     * Meets all stands of a law, the nearest first and of like ones the least orders first, until
     * all is searched: so the first way to such a stand is the first shortest plan.
     *
     * A stand is one int: two bits a cave for who is below, one bit a cave for what is lost, one bit
     * for a slide. Of 6 caves and 3 searchers there are at most 1,520 (each cave without searchers
     * lost or not), and 84 more ahead of a slide.
     */
    private static final class Finder {
        private static final int MOST_STANDS = 1604;
        private static final int SLOTS = 2048;
        private static final int SLOT_SHIFT = 21;
        private static final int SCATTER = 0x9E3779B1;
        private static final int LOST_SHIFT = 2 * SOLVED_CAVES;
        private static final int SLID_SHIFT = 3 * SOLVED_CAVES;

        private final Ground ground;
        private final int[] slots = new int[SLOTS];
        private final int[] stands = new int[MOST_STANDS];
        private final int[] from = new int[MOST_STANDS];
        private final int[] orders = new int[MOST_STANDS];
        private int met;
        private int goal;
        private int law;
        private int most;

        private int head;
        private int below;
        private int lost;
        private boolean slid;
        private int guarded;
        private int total;

        Finder(Ground ground) {
            this.ground = ground;
        }

        boolean finds(int byLaw, int atMost) {
            law = byLaw;
            most = atMost;
            met = 0;
            goal = NONE;
            Arrays.fill(slots, 0);
            head = NONE;
            slid = false;
            meet(0, ground.allCaves(), 0, PUT, 0, NONE);
            for (int i = 0; i < met && i < MOST_STANDS && goal == NONE; i++) {
                takeUp(i);
                tryPuts();
                tryLifts();
                trySlides();
            }
            return goal != NONE;
        }

        Way wayToGoal() {
            int length = 0;
            for (int i = goal; i > 0 && i < MOST_STANDS && length < MOST_STANDS; i = from[i]) {
                length++;
            }
            Way found = new Way(length);
            int left = length;
            for (int i = goal; i > 0 && i < MOST_STANDS && left > 0; i = from[i]) {
                left--;
                found.put(left, orders[i]);
            }
            return found;
        }

        private void takeUp(int i) {
            int stand = stands[i];
            head = i;
            below = stand & (1 << LOST_SHIFT) - 1;
            lost = stand >> LOST_SHIFT & (1 << SOLVED_CAVES) - 1;
            slid = stand >> SLID_SHIFT != 0;
            guarded = 0;
            total = 0;
            for (int c = 0; c < SOLVED_CAVES; c++) {
                int here = below >> 2 * c & 3;
                total += here;
                if (here > 0) {
                    guarded |= 1 << c;
                }
            }
        }

        private void tryPuts() {
            for (int c = 0; c < ground.caves && total < most; c++) {
                if (ground.allows(law, PUT, c, slid)) {
                    int there = guarded | 1 << c;
                    meet(below + one(c), lost & ~there, there, PUT, c, NONE);
                }
            }
        }

        private void tryLifts() {
            for (int c = 0; c < ground.caves; c++) {
                if ((guarded >> c & 1) != 0 && ground.allows(law, LIFT, c, slid)) {
                    int there = guardedWithout(c);
                    meet(below - one(c), ground.lostBehind(lost, there, c, 0), there, LIFT, c, NONE);
                }
            }
        }

        private void trySlides() {
            for (int c = 0; c < ground.caves; c++) {
                if ((guarded >> c & 1) != 0) {
                    trySlidesFrom(c);
                }
            }
        }

        private void trySlidesFrom(int c) {
            int here = ground.at[c];
            for (int p = 0; p < MOST_PASSAGES && here >> p != 0; p++) {
                if ((here >> p & 1) != 0) {
                    int d = ground.otherEnd(p, c);
                    int there = guardedWithout(c) | 1 << d;
                    int lostNow = ground.lostBehind(lost, there, c, 1 << p);
                    meet(below - one(c) + one(d), lostNow, there, SLIDE, c, p);
                }
            }
        }

        private static int one(int c) {
            return 1 << 2 * c;
        }

        private int guardedWithout(int c) {
            return (below >> 2 * c & 3) > 1 ? guarded : guarded & ~(1 << c);
        }

        private void meet(int belowNow, int lostNow, int guardedNow, int what, int c, int p) {
            if (law == FROM_THE_MOUTH && !ground.hangsTogether(lostNow, guardedNow)) {
                return;
            }
            boolean slidNow = law == PUTS_AHEAD && (slid || what == SLIDE);
            int stand = belowNow | lostNow << LOST_SHIFT | (slidNow ? 1 << SLID_SHIFT : 0);
            int slot = slotOf(stand);
            if (slot == NONE || slots[slot] != 0 || met >= MOST_STANDS) {
                return;
            }
            stands[met] = stand;
            from[met] = head;
            orders[met] = Way.packed(what, c, p);
            if (lostNow == 0 && goal == NONE) {
                goal = met;
            }
            met++;
            slots[slot] = met;
        }

        /** The slot that holds the stand, or the free one where it would be. */
        private int slotOf(int stand) {
            int slot = stand * SCATTER >>> SLOT_SHIFT;
            for (int tries = 0; tries < SLOTS; tries++) {
                int held = slots[slot];
                if (held <= 0 || held > MOST_STANDS || stands[held - 1] == stand) {
                    return slot;
                }
                slot = slot + 1 & SLOTS - 1;
            }
            return NONE;
        }
    }

    /** A plan that was found: a row of orders, each one int. */
    private static final class Way {
        private final int[] orders;

        Way(int length) {
            orders = new int[Math.max(0, length)];
        }

        static int packed(int what, int c, int p) {
            return what << 10 | c << 5 | p + 1;
        }

        int length() {
            return orders.length;
        }

        void put(int i, int order) {
            if (i >= 0 && i < orders.length) {
                orders[i] = order;
            }
        }

        int tell(int i, int what) {
            if (i < 0 || i >= orders.length) {
                return NONE;
            }
            switch (what) {
                case 0: return orders[i] >> 10;
                case 1: return orders[i] >> 5 & 31;
                case 2: return (orders[i] & 31) - 1;
                default: return NONE;
            }
        }
    }
}
