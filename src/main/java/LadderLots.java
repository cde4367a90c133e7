import java.util.Arrays;

/**
 * Ladder lots: legs side by side with rungs between neighbours that change the places of all who
 * come down. What each call answers is told by the numbered promises of the document.
 */
public final class LadderLots {
    public static final int NONE = -1;

    private static final int MISFIT = -2;
    private static final int BEYOND = -3;
    private static final int MOST_LADDERS = 6;
    private static final int MOST_LEGS_SEARCHED = 5;

    private final Ladder[] shelf;
    private final Orders orders;
    private final LeastLadders least;
    private final WordGraph graph;
    private final PlainRungs plainRungs;
    private final Odds hidden;
    private final LogBook book;
    private final BitRows bits;
    private final BitRows otherBits;
    private final Mender mender;
    private final Tokens tokens;
    private final Teller teller;
    private int shelved;
    private int stamps;
    private int faultPlace;

    public LadderLots() {
        Orders table = new Orders();
        LeastLadders counted = new LeastLadders(table);
        shelf = new Ladder[MOST_LADDERS];
        for (int t = 0; t < shelf.length; t++) {
            shelf[t] = new Ladder();
        }
        orders = table;
        least = counted;
        graph = new WordGraph(table, counted);
        plainRungs = new PlainRungs(table);
        hidden = new Odds(table);
        book = new LogBook(table);
        bits = new BitRows();
        otherBits = new BitRows();
        mender = new Mender();
        tokens = new Tokens();
        teller = new Teller();
        faultPlace = NONE;
    }

    // ---- The tape and what is made of it ----

    public int feed(int a, int b, int c, int d, int e) {
        if (!tokens.hasRoomFor(20)) {
            return NONE;
        }
        tokens.append(a);
        tokens.append(b);
        tokens.append(c);
        tokens.append(d);
        tokens.append(e);
        return tokens.length();
    }

    public int back(int n) {
        return tokens.dropLast(n) ? tokens.length() : NONE;
    }

    public int read() {
        if (shelved >= MOST_LADDERS) {
            return MISFIT;
        }
        int fault = tokens.scan();
        faultPlace = tokens.faultPlace();
        if (fault == 0) {
            fault = teller.tell(tokens);
            faultPlace = teller.faultPlace();
        }
        tokens.dropLast(tokens.length());
        if (fault == 0) {
            Ladder told = teller.told();
            Ladder made = shelve(told.legs());
            if (made != null) {
                made.addAll(told, false, false);
            }
        }
        return fault;
    }

    public int place() {
        return faultPlace;
    }

    public int clear() {
        int gone = shelved;
        shelved = 0;
        book.empty();
        return gone;
    }

    public int copy(int t, boolean upside, boolean turned) {
        Ladder from = found(t);
        if (from == null) {
            return NONE;
        }
        Ladder made = shelve(from.legs());
        if (made == null) {
            return NONE;
        }
        made.addAll(from, upside, turned);
        return shelved - 1;
    }

    public int join(int t, int u) {
        Ladder upper = found(t);
        Ladder lower = found(u);
        if (upper == null || lower == null || upper.legs() != lower.legs()) {
            return NONE;
        }
        if (upper.size() + lower.size() > Ladder.MOST_ELEMENTS
                || upper.maybes() + lower.maybes() > Ladder.MOST_MAYBES) {
            return NONE;
        }
        Ladder made = shelve(upper.legs());
        if (made == null) {
            return NONE;
        }
        made.addAll(upper, false, false);
        made.addAll(lower, false, false);
        return shelved - 1;
    }

    public int lots(int seed, int n, int m, boolean gates) {
        if (!Orders.fits(n) || m < 0 || m > Ladder.MOST_ELEMENTS) {
            return NONE;
        }
        Ladder made = shelve(n);
        if (made == null) {
            return NONE;
        }
        for (int i = 0; i < m; i++) {
            int leg = lot(n - 1, seed, 2 * i);
            boolean gate = gates && lot(2, seed, 2 * i + 1) == 1;
            made.add(gate ? Ladder.GATE : Ladder.RUNG, leg, 0, 0);
        }
        return shelved - 1;
    }

    public int ladder(int t, int what) {
        Ladder ladder = found(t);
        if (ladder == null) {
            return NONE;
        }
        switch (what) {
            case 0:
                return ladder.legs();
            case 1:
                return ladder.size();
            case 2:
                return ladder.maybes();
            case 3:
                return ladder.deepest();
            case 4:
                return ladder.isPlain() ? 1 : 0;
            default:
                return NONE;
        }
    }

    public int element(int t, int i, int what) {
        Ladder ladder = found(t);
        if (ladder == null || !ladder.has(i)) {
            return NONE;
        }
        boolean maybe = ladder.kindAt(i) == Ladder.MAYBE;
        switch (what) {
            case 0:
                return ladder.legAt(i);
            case 1:
                return ladder.kindAt(i);
            case 2:
                return maybe ? ladder.waysThereAt(i) : NONE;
            case 3:
                return maybe ? ladder.waysAt(i) : NONE;
            case 4:
                return ladder.layerAt(i);
            default:
                return NONE;
        }
    }

    // ---- Orders and least ladders ----

    public int digit(int n, int order, int i) {
        if (!orders.has(n, order) || i < 0 || i >= n) {
            return NONE;
        }
        return orders.numberOn(n, order, i);
    }

    public int down(int t, int order, int there) {
        Ladder ladder = found(t);
        if (ladder == null || !orders.has(ladder.legs(), order) || !ladder.hasSet(there)) {
            return NONE;
        }
        return orders.end(ladder, order, there);
    }

    public int ends(int t, int order, int there, int number) {
        int end = down(t, order, there);
        Ladder ladder = found(t);
        if (end == NONE || ladder == null || !ladder.hasLeg(number)) {
            return NONE;
        }
        return orders.legOf(ladder.legs(), end, number);
    }

    public int fewest(int n, int order) {
        return orders.has(n, order) ? orders.inversions(n, order) : NONE;
    }

    public long ladders(int n, int order) {
        return orders.has(n, order) ? least.howMany(n, order) : NONE;
    }

    public int rung(int n, int order, long rank, int i) {
        if (!hasRank(n, order, rank)) {
            return NONE;
        }
        int length = orders.inversions(n, order);
        if (i < 0 || i >= length) {
            return NONE;
        }
        return WordGraph.letter(least.word(n, order, rank), length, i);
    }

    public long rank(int t) {
        Ladder ladder = found(t);
        if (ladder == null) {
            return NONE;
        }
        if (!ladder.isPlain()) {
            return MISFIT;
        }
        int end = orders.end(ladder, 0, 0);
        boolean isLeast = ladder.size() == orders.inversions(ladder.legs(), end);
        return isLeast ? least.rankOf(ladder, end) : MISFIT;
    }

    public int cleared(int t) {
        Ladder ladder = found(t);
        if (ladder == null) {
            return NONE;
        }
        return ladder.isPlain() ? plainRungs.clearedSize(ladder) : MISFIT;
    }

    public int kept(int t, int i) {
        Ladder ladder = found(t);
        if (ladder == null || !ladder.isPlain()) {
            return NONE;
        }
        return plainRungs.leftAt(ladder, i);
    }

    public int turns(int n, int order, int rank, int other) {
        return steps(n, order, rank, other, 0);
    }

    public int moves(int n, int order, int rank, int other) {
        return steps(n, order, rank, other, 1);
    }

    public int classes(int n, int order) {
        if (!orders.has(n, order)) {
            return NONE;
        }
        return graph.lay(n, order) ? graph.slideClasses() : MISFIT;
    }

    // ---- Ways, odds and logs ----

    public long ways(int t) {
        Ladder ladder = found(t);
        return ladder == null ? NONE : ladder.allWays();
    }

    public long odds(int t, int order, int number, int leg) {
        Ladder ladder = found(t);
        if (ladder == null || !orders.has(ladder.legs(), order)
                || !ladder.hasLeg(number) || !ladder.hasLeg(leg)) {
            return NONE;
        }
        hidden.look(ladder, order);
        return hidden.waysOnto(number, leg);
    }

    public long oddsOf(int t, int order, int end) {
        Ladder ladder = found(t);
        if (ladder == null || !orders.has(ladder.legs(), order)
                || !orders.has(ladder.legs(), end)) {
            return NONE;
        }
        hidden.look(ladder, order);
        return hidden.waysTo(end);
    }

    public int possible(int t, int order) {
        Ladder ladder = found(t);
        if (ladder == null || !orders.has(ladder.legs(), order)) {
            return NONE;
        }
        hidden.look(ladder, order);
        return hidden.howMany();
    }

    public int log(int t, int number, int leg) {
        Ladder ladder = found(t);
        if (ladder == null || !ladder.hasLeg(number) || !ladder.hasLeg(leg)) {
            return NONE;
        }
        return book.write(t, number, leg, NONE);
    }

    public int annul(int log) {
        return book.isLog(log) ? book.write(NONE, NONE, NONE, log) : NONE;
    }

    public long fitting(int t, int j) {
        Ladder ladder = found(t);
        if (ladder == null || !book.canBeKnown(j)) {
            return NONE;
        }
        book.weigh(t, ladder, j);
        return book.fittingWays();
    }

    public long likely(int t, int j, int number, int leg) {
        Ladder ladder = found(t);
        if (ladder == null || !book.canBeKnown(j)
                || !ladder.hasLeg(number) || !ladder.hasLeg(leg)) {
            return NONE;
        }
        book.weigh(t, ladder, j);
        return book.waysOnto(number, leg);
    }

    public int next(int t, int j) {
        Ladder ladder = found(t);
        if (ladder == null || !book.canBeKnown(j)) {
            return NONE;
        }
        book.weigh(t, ladder, j);
        return book.mostTelling(ladder.legs());
    }

    // ---- Rungs drawn in ----

    public int drawn(int t, int number, int leg) {
        Ladder ladder = found(t);
        if (ladder == null || !ladder.hasLeg(number) || !ladder.hasLeg(leg)) {
            return NONE;
        }
        return ladder.isPlain() ? plainRungs.drawnFor(ladder, number, leg) : MISFIT;
    }

    public int drawnAt(int t, int number, int leg, int i) {
        int many = drawn(t, number, leg);
        Ladder ladder = found(t);
        if (ladder == null || i < 0 || i >= many) {
            return NONE;
        }
        return plainRungs.drawnRung(ladder, number, i);
    }

    public int drawnAll(int t, int order) {
        Ladder ladder = found(t);
        if (ladder == null || !orders.has(ladder.legs(), order)) {
            return NONE;
        }
        if (!ladder.isPlain()) {
            return MISFIT;
        }
        if (ladder.legs() > MOST_LEGS_SEARCHED) {
            return BEYOND;
        }
        return plainRungs.drawnForOrder(ladder, order);
    }

    // ---- What gates sort ----

    public int sorts(int t) {
        int failing = fails(t);
        if (failing < 0) {
            return failing;
        }
        return failing == 0 ? 1 : 0;
    }

    public int unsorted(int t) {
        Ladder ladder = found(t);
        if (ladder == null) {
            return NONE;
        }
        if (ladder.maybes() > 0) {
            return MISFIT;
        }
        bits.sendDown(ladder, ladder.size(), NONE);
        bits.markSorted();
        return orders.howMany(ladder.legs()) - bits.ordersOfMarked();
    }

    public int fails(int t) {
        Ladder ladder = found(t);
        if (ladder == null) {
            return NONE;
        }
        if (ladder.maybes() > 0) {
            return MISFIT;
        }
        bits.sendDown(ladder, ladder.size(), NONE);
        bits.markSorted();
        return bits.howManyUnmarked();
    }

    public int firstFail(int t) {
        int failing = fails(t);
        if (failing < 0) {
            return failing;
        }
        return failing == 0 ? BEYOND : bits.firstUnmarked();
    }

    public int idle(int t, int i) {
        Ladder ladder = found(t);
        if (ladder == null || !ladder.has(i)) {
            return NONE;
        }
        if (ladder.maybes() > 0) {
            return MISFIT;
        }
        bits.sendDown(ladder, i, NONE);
        return bits.changesAt(ladder, i) ? 0 : 1;
    }

    public int needed(int t, int i) {
        Ladder ladder = found(t);
        if (ladder == null || !ladder.has(i)) {
            return NONE;
        }
        if (ladder.maybes() > 0) {
            return MISFIT;
        }
        bits.sendDown(ladder, ladder.size(), i);
        bits.markSorted();
        return bits.howManyUnmarked() > 0 ? 1 : 0;
    }

    public int mend(int t) {
        Ladder ladder = found(t);
        if (ladder == null) {
            return NONE;
        }
        if (ladder.maybes() > 0) {
            return MISFIT;
        }
        if (ladder.legs() > MOST_LEGS_SEARCHED) {
            return BEYOND;
        }
        bits.sendDown(ladder, ladder.size(), NONE);
        return mender.search(bits);
    }

    public int mendAt(int t, int i) {
        int many = mend(t);
        return i >= 0 && i < many ? mender.gateAt(i) : NONE;
    }

    public int unlike(int t, int u) {
        Ladder one = found(t);
        Ladder other = found(u);
        if (one == null || other == null) {
            return NONE;
        }
        if (one.maybes() > 0 || other.maybes() > 0 || one.legs() != other.legs()) {
            return MISFIT;
        }
        bits.sendDown(one, one.size(), NONE);
        otherBits.sendDown(other, other.size(), NONE);
        bits.markAlike(otherBits);
        return orders.howMany(one.legs()) - bits.ordersOfMarked();
    }

    public int count(int what) {
        switch (what) {
            case 0:
                return shelved;
            case 1:
                return book.size();
            case 2:
                return tokens.length();
            default:
                return NONE;
        }
    }

    // ---- Helpers of the calls ----

    private Ladder found(int t) {
        return t >= 0 && t < shelved && t < shelf.length ? shelf[t] : null;
    }

    /** A new ladder without elements, behind the others; null if there is no room for it. */
    private Ladder shelve(int legs) {
        if (shelved < 0 || shelved >= shelf.length) {
            return null;
        }
        Ladder made = shelf[shelved];
        if (made == null) {
            return null;
        }
        shelved++;
        stamps++;
        made.begin(legs, stamps);
        orders.prepare(legs);
        return made;
    }

    private boolean hasRank(int n, int order, long rank) {
        return orders.has(n, order) && rank >= 0 && rank < least.howMany(n, order);
    }

    private int steps(int n, int order, int rank, int other, int slideCost) {
        if (!hasRank(n, order, rank) || !hasRank(n, order, other)) {
            return NONE;
        }
        return graph.lay(n, order) ? graph.distance(rank, other, slideCost) : MISFIT;
    }

    private static int lot(int m, int seed, int which) {
        if (m < 1) {
            return 0;
        }
        int h = stirred(stirred(seed ^ 9) ^ which);
        return (h >>> 1) % m;
    }

    private static int stirred(int mixed) {
        int h = mixed * 1103515245 + 12345;
        return h ^ (h >>> 15);
    }

    // ---- The classes inside ----

    /** The elements of a ladder, or of a part of a text, from the top. */
    private static final class Ladder {
        static final int RUNG = 0;
        static final int GATE = 1;
        static final int BACK = 2;
        static final int MAYBE = 3;
        static final int MOST_ELEMENTS = 200;
        static final int MOST_MAYBES = 20;

        /** Counts stop here, so that times within times cannot wrap around. */
        private static final int COUNT_LIMIT = 100000;

        /** Of each element: 2 bits of its kind, then 3 of its leg, of a, of b. */
        private final int[] cells;
        /** The greatest layer so far on each leg, while layers are reckoned. */
        private final int[] tops;
        private int legs;
        private int size;
        private int maybes;
        private int stamp;

        Ladder() {
            cells = new int[MOST_ELEMENTS];
            tops = new int[9];
            legs = Orders.FEWEST_LEGS;
        }

        void begin(int newLegs, int newStamp) {
            legs = newLegs;
            stamp = newStamp;
            size = 0;
            maybes = 0;
        }

        int legs() {
            return legs;
        }

        int size() {
            return size;
        }

        int maybes() {
            return maybes;
        }

        /** Another one for each ladder that was ever made, so that what was reckoned can be kept. */
        int stamp() {
            return stamp;
        }

        boolean has(int i) {
            return i >= 0 && i < size && i < cells.length;
        }

        boolean hasLeg(int leg) {
            return leg >= 0 && leg < legs;
        }

        boolean hasSet(int there) {
            return there >= 0 && maybes <= MOST_MAYBES && there < 1 << maybes;
        }

        boolean isTooLong() {
            return size > MOST_ELEMENTS || maybes > MOST_MAYBES;
        }

        int kindAt(int i) {
            return has(i) ? cells[i] & 3 : RUNG;
        }

        int legAt(int i) {
            return has(i) ? cells[i] >> 2 & 7 : 0;
        }

        int waysThereAt(int i) {
            return has(i) ? cells[i] >> 5 & 7 : 0;
        }

        int waysAt(int i) {
            return has(i) ? cells[i] >> 8 & 7 : 0;
        }

        /** What is beyond the room is counted, but not held. */
        void add(int kind, int leg, int a, int b) {
            addCell(kind & 3 | (leg & 7) << 2 | (a & 7) << 5 | (b & 7) << 8);
        }

        private void addCell(int cell) {
            if (size >= 0 && size < cells.length) {
                cells[size] = cell;
            }
            size = Math.min(size + 1, COUNT_LIMIT);
            if ((cell & 3) == MAYBE) {
                maybes = Math.min(maybes + 1, COUNT_LIMIT);
            }
        }

        void addAll(Ladder other, boolean upside, boolean turned) {
            int many = Math.min(other.size, MOST_ELEMENTS);
            for (int i = 0; i < many; i++) {
                int from = upside ? many - 1 - i : i;
                int kind = other.kindAt(from);
                int leg = other.legAt(from);
                if (turned) {
                    leg = legs - 2 - leg;
                    kind = kind == GATE ? BACK : kind == BACK ? GATE : kind;
                }
                add(kind, leg, other.waysThereAt(from), other.waysAt(from));
            }
        }

        /** What came behind the first so many elements is there so often then. */
        void repeat(int fromSize, int fromMaybes, int times) {
            int ownSize = size - fromSize;
            int ownMaybes = maybes - fromMaybes;
            int newSize = (int) Math.min(fromSize + (long) ownSize * times, COUNT_LIMIT);
            for (int i = Math.max(size, 0); i < newSize && i < cells.length; i++) {
                if (i - ownSize >= 0 && i - ownSize < i) {
                    cells[i] = cells[i - ownSize];
                }
            }
            size = newSize;
            maybes = (int) Math.min(fromMaybes + (long) ownMaybes * times, COUNT_LIMIT);
        }

        boolean isPlain() {
            for (int i = 0; i < size; i++) {
                if (kindAt(i) != RUNG) {
                    return false;
                }
            }
            return true;
        }

        long allWays() {
            long product = 1;
            for (int i = 0; i < size; i++) {
                if (kindAt(i) == MAYBE) {
                    product *= waysAt(i);
                }
            }
            return product;
        }

        int layerAt(int last) {
            Arrays.fill(tops, 0);
            int layer = 0;
            for (int i = 0; i <= last && i < size; i++) {
                int leg = legAt(i);
                if (leg + 1 < tops.length) {
                    layer = Math.max(tops[leg], tops[leg + 1]) + 1;
                    tops[leg] = layer;
                    tops[leg + 1] = layer;
                }
            }
            return layer;
        }

        int deepest() {
            layerAt(size - 1);
            int greatest = 0;
            for (int leg = 0; leg < tops.length; leg++) {
                greatest = Math.max(greatest, tops[leg]);
            }
            return greatest;
        }
    }

    /**
     * The orders of 2 to 7 numbers by their numbers. The number of an order has mixed digits: the
     * one of place i is how many of the numbers behind it are less. So an order of n has the same
     * number as that order of 7 which ends like it behind 7 - n places in their order, and one
     * table of 7 serves all.
     */
    private static final class Orders {
        static final int FEWEST_LEGS = 2;
        static final int MOST_LEGS = 7;
        static final int MOST_ORDERS = 5040;
        private static final int[] FACTORIALS = {1, 1, 2, 6, 24, 120, 720, 5040};

        /** For each place of 7, the order in which the two there have changed. */
        private final short[] swaps;
        /** Orders of up to so many numbers are in the table. */
        private int ready;

        Orders() {
            swaps = new short[(MOST_LEGS - 1) * MOST_ORDERS];
        }

        static boolean fits(int n) {
            return n >= FEWEST_LEGS && n <= MOST_LEGS;
        }

        int howMany(int n) {
            return fits(n) ? FACTORIALS[n] : 0;
        }

        boolean has(int n, int order) {
            return fits(n) && order >= 0 && order < FACTORIALS[n];
        }

        private int lesserBehind(int n, int order, int i) {
            if (n > MOST_LEGS || i < 0 || i >= n) {
                return 0;
            }
            return order / FACTORIALS[n - 1 - i] % (n - i);
        }

        int inversions(int n, int order) {
            int sum = 0;
            for (int i = 0; i < n; i++) {
                sum += lesserBehind(n, order, i);
            }
            return sum;
        }

        int numberOn(int n, int order, int i) {
            int number = lesserBehind(n, order, i);
            for (int j = i - 1; j >= 0; j--) {
                if (lesserBehind(n, order, j) <= number) {
                    number++;
                }
            }
            return number;
        }

        int legOf(int n, int order, int number) {
            int stillLesser = number;
            for (int i = 0; i < n; i++) {
                int here = lesserBehind(n, order, i);
                if (here == stillLesser) {
                    return i;
                }
                if (here < stillLesser) {
                    stillLesser--;
                }
            }
            return NONE;
        }

        /** The order in which each number and its leg have changed their parts. */
        int inverse(int n, int order) {
            int result = 0;
            for (int number = 0; number < n; number++) {
                int leg = legOf(n, order, number);
                int lesser = 0;
                for (int greater = number + 1; greater < n; greater++) {
                    if (legOf(n, order, greater) < leg) {
                        lesser++;
                    }
                }
                result = result * (n - number) + lesser;
            }
            return result;
        }

        /** Fills the table for orders of n, which can be led down only then. */
        void prepare(int n) {
            if (n <= ready || !fits(n)) {
                return;
            }
            ready = n;
            for (int k = 0; k <= n - 2; k++) {
                int from = (k + MOST_LEGS - n) * MOST_ORDERS;
                int weight = FACTORIALS[n - 1 - k];
                int nextWeight = FACTORIALS[n - 2 - k];
                for (int order = 0; order < FACTORIALS[n]; order++) {
                    int left = lesserBehind(n, order, k);
                    int right = lesserBehind(n, order, k + 1);
                    int newLeft = left > right ? right : right + 1;
                    int newRight = left > right ? left - 1 : left;
                    swaps[from + order] = (short) (order + (newLeft - left) * weight
                            + (newRight - right) * nextWeight);
                }
            }
        }

        /** The order in which the two on legs k and k + 1 have changed. */
        int exchanged(int n, int order, int k) {
            if (n < FEWEST_LEGS || n > ready || k < 0 || k > n - 2
                    || order < 0 || order >= MOST_ORDERS) {
                return order;
            }
            return swaps[(k + MOST_LEGS - n) * MOST_ORDERS + order];
        }

        /** Behind an element that is there; the lesser order is the one with the lesser left. */
        int behind(int n, int order, int kind, int k) {
            int changed = exchanged(n, order, k);
            if (kind == Ladder.GATE) {
                return Math.min(order, changed);
            }
            if (kind == Ladder.BACK) {
                return Math.max(order, changed);
            }
            return changed;
        }

        /** Leads many orders past an element that is there. */
        void leadAll(Ladder ladder, int i, int[] all, int many) {
            int n = ladder.legs();
            int k = ladder.legAt(i);
            int kind = ladder.kindAt(i);
            if (n < FEWEST_LEGS || n > ready || k > n - 2) {
                return;
            }
            int row = (k + MOST_LEGS - n) * MOST_ORDERS;
            boolean always = kind == Ladder.RUNG || kind == Ladder.MAYBE;
            boolean toLesser = kind == Ladder.GATE;
            for (int at = 0; at < many && at < all.length; at++) {
                int order = all[at];
                int cell = row + order;
                if (cell >= 0 && cell < swaps.length) {
                    int changed = swaps[cell];
                    if (always || changed < order == toLesser) {
                        all[at] = changed;
                    }
                }
            }
        }

        int end(Ladder ladder, int order, int there) {
            int now = order;
            int left = there;
            for (int i = 0; i < ladder.size(); i++) {
                int kind = ladder.kindAt(i);
                boolean passes = true;
                if (kind == Ladder.MAYBE) {
                    passes = (left & 1) == 1;
                    left >>= 1;
                }
                if (passes) {
                    now = behind(ladder.legs(), now, kind, ladder.legAt(i));
                }
            }
            return now;
        }
    }

    /**
     * The least ladders of each order, counted and ranked. Their first rungs are those places of
     * the inverse order whose left one is the greater; and an order has as many least ladders as
     * its inverse, since each is one of the other's from the bottom up.
     */
    private static final class LeastLadders {
        static final int BITS = 3;

        private final Orders orders;
        private final long[] counts;
        private int counted;

        LeastLadders(Orders table) {
            orders = table;
            counts = new long[Orders.MOST_ORDERS];
        }

        long howMany(int n, int order) {
            if (!orders.has(n, order)) {
                return 0;
            }
            reckonCounts(n);
            return countAt(order);
        }

        private long countAt(int order) {
            return order >= 0 && order < counts.length ? counts[order] : 0;
        }

        private void reckonCounts(int n) {
            orders.prepare(n);
            int many = Math.min(orders.howMany(n), counts.length);
            for (int order = counted; order < many; order++) {
                long sum = order == 0 ? 1 : 0;
                for (int k = 0; k <= n - 2; k++) {
                    int shorter = orders.exchanged(n, order, k);
                    if (shorter < order) {
                        sum += countAt(shorter);
                    }
                }
                counts[order] = sum;
            }
            counted = Math.max(counted, many);
        }

        /**
         * The legs of the rungs, three bits each, the first one's the highest; of a rank below
         * what howMany has told.
         */
        long word(int n, int order, long rank) {
            long word = 0;
            long left = rank;
            int now = orders.inverse(n, order);
            int length = orders.inversions(n, order);
            for (int i = 0; i < length; i++) {
                int leg = 0;
                int chosen = now;
                for (int k = 0; k <= n - 2 && chosen == now; k++) {
                    int shorter = orders.exchanged(n, now, k);
                    if (shorter < now) {
                        long many = countAt(shorter);
                        if (left < many) {
                            leg = k;
                            chosen = shorter;
                        } else {
                            left -= many;
                        }
                    }
                }
                now = chosen;
                word = word << BITS | leg;
            }
            return word;
        }

        long rankOf(Ladder ladder, int end) {
            int n = ladder.legs();
            reckonCounts(n);
            long rank = 0;
            int now = orders.inverse(n, end);
            for (int i = 0; i < ladder.size(); i++) {
                int leg = ladder.legAt(i);
                for (int k = 0; k < leg; k++) {
                    int shorter = orders.exchanged(n, now, k);
                    if (shorter < now) {
                        rank += countAt(shorter);
                    }
                }
                now = orders.exchanged(n, now, leg);
            }
            return rank;
        }
    }

    /** All least ladders of one order as words, led into one another by slides and turns. */
    private static final class WordGraph {
        static final int MOST_WORDS = 800;
        private static final int LETTER = (1 << LeastLadders.BITS) - 1;

        /** With these a letter is told twice or three times, one behind the other. */
        private static final long TWICE = 1 | 1 << LeastLadders.BITS;
        private static final long THRICE = TWICE | 1 << 2 * LeastLadders.BITS;

        private final Orders orders;
        private final LeastLadders least;
        private final long[] words;
        private final int[] distances;
        private final int[] line;
        private int size;
        private int length;
        private int reached;
        private int legsLaid;
        private int orderLaid;

        WordGraph(Orders table, LeastLadders counted) {
            orders = table;
            least = counted;
            words = new long[MOST_WORDS];
            distances = new int[MOST_WORDS];
            line = new int[MOST_WORDS];
        }

        static int letter(long word, int length, int i) {
            return (int) (word >>> LeastLadders.BITS * (length - 1 - i)) & LETTER;
        }

        /** Lays out the least ladders of an order, if these are not too many. */
        boolean lay(int n, int order) {
            long many = least.howMany(n, order);
            if (many > words.length) {
                return false;
            }
            if (n == legsLaid && order == orderLaid) {
                return true;
            }
            legsLaid = n;
            orderLaid = order;
            size = (int) many;
            length = orders.inversions(n, order);
            for (int i = 0; i < size && i < words.length; i++) {
                words[i] = least.word(n, order, i);
            }
            return true;
        }

        int distance(int from, int to, int slideCost) {
            forgetDistances();
            if (to < 0 || to >= distances.length) {
                return NONE;
            }
            reach(from, 0);
            int start = 0;
            for (int steps = 0; start < reached && steps < MOST_WORDS; steps++) {
                for (int at = start; slideCost == 0 && at < reached && at < line.length; at++) {
                    reachBySlides(line[at], steps);
                }
                int levelEnd = Math.min(reached, line.length);
                for (int at = start; at < levelEnd; at++) {
                    reachByTurns(line[at], steps + 1);
                    reachBySlides(line[at], steps + 1);
                }
                start = levelEnd;
            }
            return distances[to];
        }

        int slideClasses() {
            forgetDistances();
            int classCount = 0;
            int at = 0;
            for (int i = 0; i < size && i < distances.length; i++) {
                if (distances[i] == NONE) {
                    classCount++;
                    reach(i, 0);
                }
                for (; at < reached && at < line.length; at++) {
                    reachBySlides(line[at], 0);
                }
            }
            return classCount;
        }

        private void forgetDistances() {
            Arrays.fill(distances, NONE);
            reached = 0;
        }

        private void reach(int i, int steps) {
            if (i < 0 || i >= size || i >= distances.length || distances[i] != NONE
                    || reached < 0 || reached >= line.length) {
                return;
            }
            distances[i] = steps;
            line[reached] = i;
            reached++;
        }

        private void reachBySlides(int i, int steps) {
            long word = wordAt(i);
            for (int at = 0; at + 1 < length; at++) {
                int one = letter(word, length, at);
                int two = letter(word, length, at + 1);
                if (Math.abs(one - two) > 1) {
                    long change = (one ^ two) * TWICE;
                    reach(find(word ^ change << LeastLadders.BITS * (length - 2 - at)), steps);
                }
            }
        }

        private void reachByTurns(int i, int steps) {
            long word = wordAt(i);
            for (int at = 0; at + 2 < length; at++) {
                int one = letter(word, length, at);
                int two = letter(word, length, at + 1);
                if (one == letter(word, length, at + 2) && Math.abs(one - two) == 1) {
                    long change = (one ^ two) * THRICE;
                    reach(find(word ^ change << LeastLadders.BITS * (length - 3 - at)), steps);
                }
            }
        }

        private long wordAt(int i) {
            return i >= 0 && i < words.length ? words[i] : 0;
        }

        /** Words of one length are ranked as their numbers are. */
        private int find(long word) {
            int low = 0;
            int high = size - 1;
            for (int tries = 0; low <= high && tries < MOST_WORDS; tries++) {
                int middle = low + (high - low) / 2;
                long here = wordAt(middle);
                if (here == word) {
                    return middle;
                }
                if (here < word) {
                    low = middle + 1;
                } else {
                    high = middle - 1;
                }
            }
            return NONE;
        }
    }

    /** What is asked of plain ladders: the rungs left of them, and those drawn in. */
    private static final class PlainRungs {
        private static final int MOST_GAPS = Ladder.MOST_ELEMENTS + 1;
        private static final int MOST_ORDERS = 120;
        private static final int MOST_ROUNDS = 20;
        private static final int PLACES = 8;

        private final Orders orders;
        private final boolean[] left;
        private final int[] row;
        /** For each two numbers, the rung still left at which they changed last. */
        private final int[] met;
        /** For each gap and leg, the fewest rungs from there on. */
        private final int[] costs;
        /** For each order, the fewest rungs by which it comes to the gap that is looked at. */
        private final int[] reach;
        private int stampReached;

        PlainRungs(Orders table) {
            orders = table;
            left = new boolean[Ladder.MOST_ELEMENTS];
            row = new int[PLACES];
            met = new int[PLACES * PLACES];
            costs = new int[MOST_GAPS * PLACES];
            reach = new int[MOST_ORDERS];
        }

        int clearedSize(Ladder ladder) {
            int many = Math.min(ladder.size(), left.length);
            for (int i = 0; i < many; i++) {
                left[i] = true;
            }
            int still = many;
            while (still >= 2 && takesTwoOut(ladder)) {
                still -= 2;
            }
            return still;
        }

        int leftAt(Ladder ladder, int i) {
            clearedSize(ladder);
            int seen = 0;
            for (int at = 0; at < ladder.size() && at < left.length; at++) {
                if (left[at]) {
                    if (seen == i) {
                        return at;
                    }
                    seen++;
                }
            }
            return NONE;
        }

        private boolean takesTwoOut(Ladder ladder) {
            Arrays.fill(met, NONE);
            for (int leg = 0; leg < PLACES; leg++) {
                row[leg] = leg;
            }
            for (int i = 0; i < ladder.size() && i < left.length; i++) {
                int leg = ladder.legAt(i);
                if (left[i] && leg + 1 < row.length) {
                    int one = row[leg];
                    int two = row[leg + 1];
                    int pair = Math.min(one, two) * PLACES + Math.max(one, two);
                    if (takesOut(pair, i)) {
                        return true;
                    }
                    row[leg] = two;
                    row[leg + 1] = one;
                }
            }
            return false;
        }

        private boolean takesOut(int pair, int i) {
            if (pair < 0 || pair >= met.length || i < 0 || i >= left.length) {
                return false;
            }
            int earlier = met[pair];
            met[pair] = i;
            if (earlier < 0 || earlier >= left.length) {
                return false;
            }
            left[earlier] = false;
            left[i] = false;
            return true;
        }

        int drawnFor(Ladder ladder, int number, int leg) {
            int legs = ladder.legs();
            for (int at = 0; at < legs; at++) {
                setCost(ladder.size(), at, Math.abs(at - leg));
            }
            for (int gap = ladder.size() - 1; gap >= 0; gap--) {
                for (int at = 0; at < legs; at++) {
                    setCost(gap, at, costAt(gap + 1, passed(ladder, gap, at)));
                }
                for (int at = 1; at < legs; at++) {
                    setCost(gap, at, Math.min(costAt(gap, at), costAt(gap, at - 1) + 1));
                }
                for (int at = legs - 2; at >= 0; at--) {
                    setCost(gap, at, Math.min(costAt(gap, at), costAt(gap, at + 1) + 1));
                }
            }
            return costAt(0, number);
        }

        /** The i-th rung of those that drawnFor has counted last. */
        int drawnRung(Ladder ladder, int number, int i) {
            int at = number;
            int seen = 0;
            for (int gap = 0; gap <= ladder.size(); gap++) {
                int step = cheaperStep(ladder, gap, at);
                for (int rungs = 0; step != 0 && rungs < PLACES; rungs++) {
                    if (seen == i) {
                        return 10 * gap + Math.min(at, at + step);
                    }
                    seen++;
                    at += step;
                    step = cheaperStep(ladder, gap, at);
                }
                at = passed(ladder, gap, at);
            }
            return NONE;
        }

        private int cheaperStep(Ladder ladder, int gap, int at) {
            int here = costAt(gap, at);
            if (at > 0 && costAt(gap, at - 1) < here) {
                return -1;
            }
            if (at + 1 < ladder.legs() && costAt(gap, at + 1) < here) {
                return 1;
            }
            return 0;
        }

        private static int passed(Ladder ladder, int i, int at) {
            if (!ladder.has(i)) {
                return at;
            }
            int leg = ladder.legAt(i);
            if (at == leg) {
                return leg + 1;
            }
            return at == leg + 1 ? leg : at;
        }

        private int costAt(int gap, int leg) {
            int cell = gap * PLACES + leg;
            return cell >= 0 && cell < costs.length ? costs[cell] : 0;
        }

        private void setCost(int gap, int leg, int cost) {
            int cell = gap * PLACES + leg;
            if (cell >= 0 && cell < costs.length) {
                costs[cell] = cost;
            }
        }

        int drawnForOrder(Ladder ladder, int order) {
            if (ladder.stamp() != stampReached) {
                stampReached = ladder.stamp();
                reachAll(ladder);
            }
            return order >= 0 && order < reach.length ? reach[order] : NONE;
        }

        private void reachAll(Ladder ladder) {
            int n = ladder.legs();
            int many = Math.min(orders.howMany(n), reach.length);
            for (int order = 0; order < many; order++) {
                reach[order] = orders.inversions(n, order);
            }
            for (int i = 0; i < ladder.size(); i++) {
                changePlaces(n, many, ladder.legAt(i));
                boolean better = true;
                for (int round = 0; better && round < MOST_ROUNDS; round++) {
                    better = drawsIn(n, many);
                }
            }
        }

        private void changePlaces(int n, int many, int leg) {
            for (int order = 0; order < many; order++) {
                int other = orders.exchanged(n, order, leg);
                if (other > order && other < many) {
                    int cost = reach[order];
                    reach[order] = reach[other];
                    reach[other] = cost;
                }
            }
        }

        private boolean drawsIn(int n, int many) {
            boolean better = false;
            for (int order = 0; order < many; order++) {
                for (int leg = 0; leg <= n - 2; leg++) {
                    int other = orders.exchanged(n, order, leg);
                    if (other >= 0 && other < many && reach[other] + 1 < reach[order]) {
                        reach[order] = reach[other] + 1;
                        better = true;
                    }
                }
            }
            return better;
        }
    }

    /**
     * The ends that one order can come to, each with the ways by which it does. On their way down
     * orders become alike at gates; they are put together at maybes and at the bottom alone.
     */
    private static final class Odds {
        private final Orders orders;
        /** Orders on their way down, and the ways of each by its place here. */
        private int[] ends;
        private long[] ways;
        private int[] newEnds;
        private long[] newWays;
        /** For each order, one more than its place among the new ones; 0 if it is not there. */
        private final int[] slots;
        private int size;
        private int newSize;
        private int legs;
        private int stampSeen;
        private int orderSeen;

        Odds(Orders table) {
            orders = table;
            ends = new int[Orders.MOST_ORDERS];
            ways = new long[Orders.MOST_ORDERS];
            newEnds = new int[Orders.MOST_ORDERS];
            newWays = new long[Orders.MOST_ORDERS];
            slots = new int[Orders.MOST_ORDERS];
        }

        void look(Ladder ladder, int order) {
            if (ladder.stamp() == stampSeen && order == orderSeen) {
                return;
            }
            stampSeen = ladder.stamp();
            orderSeen = order;
            legs = ladder.legs();
            Arrays.fill(slots, 0);
            newSize = 0;
            bring(order, 1);
            for (int i = 0; i < ladder.size(); i++) {
                if (ladder.kindAt(i) == Ladder.MAYBE) {
                    turnOver();
                    part(ladder, i);
                } else {
                    orders.leadAll(ladder, i, newEnds, newSize);
                }
            }
            turnOver();
            for (int at = 0; at < size && at < ends.length && at < ways.length; at++) {
                bring(ends[at], ways[at]);
            }
        }

        private void part(Ladder ladder, int i) {
            int there = ladder.waysThereAt(i);
            int away = ladder.waysAt(i) - there;
            int leg = ladder.legAt(i);
            for (int at = 0; at < size && at < ends.length && at < ways.length; at++) {
                bring(ends[at], ways[at] * away);
                bring(orders.exchanged(legs, ends[at], leg), ways[at] * there);
            }
        }

        private void bring(int end, long many) {
            if (many <= 0 || end < 0 || end >= slots.length) {
                return;
            }
            int slot = slots[end] > 0 ? slots[end] - 1 : newSize;
            if (slot < 0 || slot >= newEnds.length || slot >= newWays.length) {
                return;
            }
            if (slot == newSize) {
                newEnds[slot] = end;
                newWays[slot] = 0;
                newSize++;
                slots[end] = newSize;
            }
            newWays[slot] += many;
        }

        /** The new ones are those on their way down then, and none is new. */
        private void turnOver() {
            int[] oldEnds = ends;
            ends = newEnds;
            newEnds = oldEnds;
            long[] oldWays = ways;
            ways = newWays;
            newWays = oldWays;
            size = newSize;
            newSize = 0;
            Arrays.fill(slots, 0);
        }

        int howMany() {
            return newSize;
        }

        int endAt(int at) {
            return at >= 0 && at < newSize && at < newEnds.length ? newEnds[at] : NONE;
        }

        long waysTo(int end) {
            int slot = end >= 0 && end < slots.length ? slots[end] - 1 : NONE;
            return slot >= 0 && slot < newWays.length ? newWays[slot] : 0;
        }

        long waysOnto(int number, int leg) {
            long sum = 0;
            for (int at = 0; at < newSize && at < newEnds.length && at < newWays.length; at++) {
                if (orders.legOf(legs, newEnds[at], number) == leg) {
                    sum += newWays[at];
                }
            }
            return sum;
        }
    }

    /** Logs and voids in one row, and the ways that fit what is known of them. */
    private static final class LogBook {
        private static final int MOST_ENTRIES = 40;
        private static final int ANY = -1;
        private static final int NOWHERE = -2;

        private final Orders orders;
        private final Odds odds;
        private final int[] whose;
        private final int[] numbers;
        private final int[] legs;
        /** The log that an entry makes none; NONE of a log. */
        private final int[] voids;
        /** For each number, the leg on which it was seen, as known. */
        private final int[] wanted;
        private final int[] row;
        /** For each number and leg, the fitting ways. */
        private final long[] fits;
        private int size;
        private int stampWeighed;
        private int knownWeighed;

        LogBook(Orders table) {
            orders = table;
            odds = new Odds(table);
            whose = new int[MOST_ENTRIES];
            numbers = new int[MOST_ENTRIES];
            legs = new int[MOST_ENTRIES];
            voids = new int[MOST_ENTRIES];
            wanted = new int[Orders.MOST_LEGS];
            row = new int[Orders.MOST_LEGS];
            fits = new long[Orders.MOST_LEGS * Orders.MOST_LEGS];
        }

        void empty() {
            size = 0;
        }

        int size() {
            return size;
        }

        boolean canBeKnown(int j) {
            return j >= 0 && j <= size;
        }

        boolean isLog(int i) {
            return i >= 0 && i < size && i < voids.length && voids[i] == NONE;
        }

        int write(int t, int number, int leg, int madeNone) {
            if (size < 0 || size >= MOST_ENTRIES) {
                return NONE;
            }
            whose[size] = t;
            numbers[size] = number;
            legs[size] = leg;
            voids[size] = madeNone;
            size++;
            return size - 1;
        }

        void weigh(int t, Ladder ladder, int known) {
            if (ladder.stamp() == stampWeighed && known == knownWeighed) {
                return;
            }
            stampWeighed = ladder.stamp();
            knownWeighed = known;
            Arrays.fill(fits, 0);
            lookUp(t, known);
            odds.look(ladder, 0);
            for (int at = 0; at < odds.howMany(); at++) {
                int end = odds.endAt(at);
                writeRow(ladder.legs(), end);
                if (fitsRow(ladder.legs())) {
                    bring(ladder.legs(), odds.waysTo(end));
                }
            }
        }

        private void lookUp(int t, int known) {
            Arrays.fill(wanted, ANY);
            for (int i = 0; i < known && i < MOST_ENTRIES; i++) {
                int number = numbers[i];
                if (isLog(i) && whose[i] == t && !isVoid(i, known)
                        && number >= 0 && number < wanted.length) {
                    boolean other = wanted[number] != ANY && wanted[number] != legs[i];
                    wanted[number] = other ? NOWHERE : legs[i];
                }
            }
        }

        private boolean isVoid(int log, int known) {
            for (int i = log + 1; i < known && i < voids.length; i++) {
                if (voids[i] == log) {
                    return true;
                }
            }
            return false;
        }

        private void writeRow(int n, int end) {
            for (int leg = 0; leg < n && leg < row.length; leg++) {
                row[leg] = orders.numberOn(n, end, leg);
            }
        }

        private boolean fitsRow(int n) {
            for (int leg = 0; leg < n && leg < row.length; leg++) {
                int number = row[leg];
                if (number >= 0 && number < wanted.length
                        && wanted[number] != ANY && wanted[number] != leg) {
                    return false;
                }
            }
            return true;
        }

        private void bring(int n, long many) {
            for (int leg = 0; leg < n && leg < row.length; leg++) {
                int cell = row[leg] * Orders.MOST_LEGS + leg;
                if (cell >= 0 && cell < fits.length) {
                    fits[cell] += many;
                }
            }
        }

        long waysOnto(int number, int leg) {
            int cell = number * Orders.MOST_LEGS + leg;
            return cell >= 0 && cell < fits.length ? fits[cell] : 0;
        }

        /** Each fitting way brings the number 0 to one leg. */
        long fittingWays() {
            long sum = 0;
            for (int leg = 0; leg < Orders.MOST_LEGS; leg++) {
                sum += waysOnto(0, leg);
            }
            return sum;
        }

        int mostTelling(int n) {
            int best = 0;
            long bestWays = mostWays(0, n);
            for (int number = 1; number < n; number++) {
                long ways = mostWays(number, n);
                if (ways < bestWays) {
                    best = number;
                    bestWays = ways;
                }
            }
            return best;
        }

        private long mostWays(int number, int n) {
            long most = 0;
            for (int leg = 0; leg < n; leg++) {
                most = Math.max(most, waysOnto(number, leg));
            }
            return most;
        }
    }

    /** All bit rows at once: for each leg, the set of those bit rows by which a one is on it. */
    private static final class BitRows {
        private static final int MOST_ROWS = 128;
        private static final long[] PATTERNS = {
            0xAAAAAAAAAAAAAAAAL, 0xCCCCCCCCCCCCCCCCL, 0xF0F0F0F0F0F0F0F0L,
            0xFF00FF00FF00FF00L, 0xFFFF0000FFFF0000L, 0xFFFFFFFF00000000L, 0L};

        private final long[] low;
        private final long[] high;
        private final int[] chains;
        private int legs;
        private long markedLow;
        private long markedHigh;

        BitRows() {
            low = new long[Orders.MOST_LEGS];
            high = new long[Orders.MOST_LEGS];
            chains = new int[MOST_ROWS];
        }

        /** Sends them down past the first so many elements, one of which may be left out. */
        void sendDown(Ladder ladder, int many, int leftOut) {
            legs = ladder.legs();
            for (int leg = 0; leg < low.length && leg < PATTERNS.length; leg++) {
                low[leg] = PATTERNS[leg];
                high[leg] = leg == low.length - 1 ? -1L : PATTERNS[leg];
            }
            for (int i = 0; i < many && i < ladder.size(); i++) {
                if (i != leftOut) {
                    pass(low, ladder.kindAt(i), ladder.legAt(i));
                    pass(high, ladder.kindAt(i), ladder.legAt(i));
                }
            }
        }

        private static void pass(long[] columns, int kind, int leg) {
            if (leg < 0 || leg + 1 >= columns.length) {
                return;
            }
            long left = columns[leg];
            long right = columns[leg + 1];
            if (kind == Ladder.GATE) {
                columns[leg] = left & right;
                columns[leg + 1] = left | right;
            } else if (kind == Ladder.BACK) {
                columns[leg] = left | right;
                columns[leg + 1] = left & right;
            } else {
                columns[leg] = right;
                columns[leg + 1] = left;
            }
        }

        boolean changesAt(Ladder ladder, int i) {
            int kind = ladder.kindAt(i);
            int leg = ladder.legAt(i);
            if (leg < 0 || leg + 1 >= low.length || leg + 1 >= legs) {
                return false;
            }
            long leftGreaterLow = low[leg] & ~low[leg + 1] & lowMask();
            long leftGreaterHigh = high[leg] & ~high[leg + 1] & highMask();
            long leftLessLow = ~low[leg] & low[leg + 1] & lowMask();
            long leftLessHigh = ~high[leg] & high[leg + 1] & highMask();
            if (kind == Ladder.GATE) {
                return (leftGreaterLow | leftGreaterHigh) != 0;
            }
            if (kind == Ladder.BACK) {
                return (leftLessLow | leftLessHigh) != 0;
            }
            return true;
        }

        private long lowMask() {
            return legs >= 6 ? -1L : (1L << (1 << legs)) - 1;
        }

        private long highMask() {
            return legs >= 7 ? -1L : 0;
        }

        void markSorted() {
            markedLow = lowMask();
            markedHigh = highMask();
            for (int leg = 0; leg + 1 < legs && leg + 1 < low.length; leg++) {
                markedLow &= ~low[leg] | low[leg + 1];
                markedHigh &= ~high[leg] | high[leg + 1];
            }
        }

        void markAlike(BitRows other) {
            markedLow = lowMask();
            markedHigh = highMask();
            for (int leg = 0; leg < legs && leg < low.length; leg++) {
                markedLow &= ~(low[leg] ^ other.low[leg]);
                markedHigh &= ~(high[leg] ^ other.high[leg]);
            }
        }

        int howManyUnmarked() {
            return Long.bitCount(lowMask() & ~markedLow) + Long.bitCount(highMask() & ~markedHigh);
        }

        int firstUnmarked() {
            long unmarked = lowMask() & ~markedLow;
            if (unmarked != 0) {
                return Long.numberOfTrailingZeros(unmarked);
            }
            return 64 + Long.numberOfTrailingZeros(highMask() & ~markedHigh);
        }

        private boolean isMarked(int bitRow) {
            long half = bitRow < 64 ? markedLow : markedHigh;
            return (half >>> (bitRow & 63) & 1) == 1;
        }

        /**
         * The orders all of whose bit rows are marked. An order is told by its bit rows, which are
         * a chain: each of them marks as ones the greatest so many numbers.
         */
        int ordersOfMarked() {
            int rows = 1 << legs;
            for (int bitRow = 0; bitRow < rows && bitRow < chains.length; bitRow++) {
                int sum = bitRow == 0 ? 1 : 0;
                for (int leg = 0; leg < legs; leg++) {
                    int lesser = bitRow & ~(1 << leg);
                    if (lesser < bitRow && lesser >= 0) {
                        sum += chains[lesser];
                    }
                }
                chains[bitRow] = isMarked(bitRow) ? sum : 0;
            }
            return rows >= 1 && rows <= chains.length ? chains[rows - 1] : 0;
        }

        int legs() {
            return legs;
        }

        /** Which of the first 32 bit rows have a one on a leg: all there are on 5 legs. */
        int columnAt(int leg) {
            return leg >= 0 && leg < legs && leg < low.length ? (int) (low[leg] & lowMask()) : 0;
        }
    }

    /**
     * The fewest gates that sort all bit rows. Whatever ladder stands above, gates below it bring
     * its columns to no more states than there are orders, so all of them are looked at.
     */
    private static final class Mender {
        private static final int MOST_STATES = 120;
        private static final int WIDTH = 5;

        private final int[] columns;
        private final int[] now;
        private final int[] parents;
        private final int[] gates;
        private final int[] answer;
        private int legs;
        private int size;
        private int answerSize;

        Mender() {
            columns = new int[MOST_STATES * WIDTH];
            now = new int[WIDTH];
            parents = new int[MOST_STATES];
            gates = new int[MOST_STATES];
            answer = new int[MOST_STATES];
        }

        int search(BitRows bits) {
            legs = Math.min(bits.legs(), WIDTH);
            size = 0;
            for (int leg = 0; leg < WIDTH; leg++) {
                now[leg] = bits.columnAt(leg);
            }
            keepNow(NONE, NONE);
            for (int state = 0; state < size && state < MOST_STATES; state++) {
                if (isSorted(state)) {
                    return traceBack(state);
                }
                for (int leg = 0; leg <= legs - 2; leg++) {
                    takeUp(state);
                    passGate(leg);
                    keepNow(state, leg);
                }
            }
            return NONE;
        }

        int gateAt(int i) {
            return i >= 0 && i < answerSize && i < answer.length
                    ? answer[answerSize - 1 - i] : NONE;
        }

        private int columnOf(int state, int leg) {
            int cell = state * WIDTH + leg;
            return cell >= 0 && cell < columns.length ? columns[cell] : 0;
        }

        private void takeUp(int state) {
            for (int leg = 0; leg < WIDTH; leg++) {
                now[leg] = columnOf(state, leg);
            }
        }

        private void passGate(int leg) {
            if (leg < 0 || leg + 1 >= now.length) {
                return;
            }
            int left = now[leg];
            int right = now[leg + 1];
            now[leg] = left & right;
            now[leg + 1] = left | right;
        }

        private void keepNow(int parent, int gate) {
            if (size < 0 || size >= MOST_STATES) {
                return;
            }
            for (int state = 0; state < size; state++) {
                if (isNow(state)) {
                    return;
                }
            }
            for (int leg = 0; leg < WIDTH; leg++) {
                columns[size * WIDTH + leg] = now[leg];
            }
            parents[size] = parent;
            gates[size] = gate;
            size++;
        }

        private boolean isNow(int state) {
            for (int leg = 0; leg < WIDTH; leg++) {
                if (columnOf(state, leg) != now[leg]) {
                    return false;
                }
            }
            return true;
        }

        private boolean isSorted(int state) {
            for (int leg = 0; leg <= legs - 2; leg++) {
                if ((columnOf(state, leg) & ~columnOf(state, leg + 1)) != 0) {
                    return false;
                }
            }
            return true;
        }

        /** The gates are held from the last one on, as the way back meets them. */
        private int traceBack(int state) {
            answerSize = 0;
            int at = state;
            while (at > 0 && at < MOST_STATES && answerSize < answer.length) {
                answer[answerSize] = gates[at];
                answerSize++;
                at = parents[at];
            }
            return answerSize;
        }
    }

    /**
     * The tape and its tokens. A scan takes the tokens one by one and stops at the first with which
     * no text goes on (SYNTAX), or for which there is no room (ROOM).
     */
    private static final class Tokens {
        static final int INT = 'i';
        static final int NAME = 'n';
        static final int LEGS = 'L';
        static final int RUNG = 'R';
        static final int GATE = 'G';
        static final int BACK = 'B';
        static final int MAYBE = 'M';
        static final int USE = 'U';
        static final int UPSIDE = 'u';
        static final int TURNED = 't';
        static final int TIMES = 'T';
        static final int PART = 'P';
        static final int CLOSED = '}';
        static final int MOST_PARTS = 8;
        static final int MOST_DEPTH = 4;

        private static final int SYNTAX = 1;
        private static final int ROOM = 2;
        private static final int OPEN = '{';
        private static final int END = 'E';
        private static final int NO_TOKEN = '?';
        private static final int MOST_BYTES = 2000;
        private static final int MOST_TOKENS = 400;
        private static final int MOST_LETTERS = 8;
        private static final int MOST_DIGITS = 4;
        private static final int LETTER_BASE = 32;

        /** Each word, behind the kind of token that it is. */
        private static final String WORDS =
                "Llegs Rrung Ggate Bback Mmaybe Uuse uupside tturned Ttimes Ppart ";
        private static final int WORD_COUNT = 10;

        private final byte[] tape;
        private final long[] wordCodes;
        private final int[] wordKinds;
        private final int[] kinds;
        private final long[] values;
        private final int[] places;
        private int length;
        private int size;
        private int faultPlace;
        /** The token that is looked at. */
        private int kind;
        private long value;
        private int place;
        private int placeBehind;
        /** What the statement that is open still must have, and what is open around it. */
        private String shape;
        private int shapeAt;
        private int depth;
        private int parts;

        Tokens() {
            tape = new byte[MOST_BYTES];
            wordCodes = new long[WORD_COUNT];
            wordKinds = new int[WORD_COUNT];
            kinds = new int[MOST_TOKENS];
            values = new long[MOST_TOKENS];
            places = new int[MOST_TOKENS];
            faultPlace = NONE;
            shape = "";
            int word = 0;
            boolean kindIsNext = true;
            for (int i = 0; i < WORDS.length() && word < WORD_COUNT; i++) {
                char sign = WORDS.charAt(i);
                if (sign == ' ') {
                    word++;
                    kindIsNext = true;
                } else if (kindIsNext) {
                    wordKinds[word] = sign;
                    kindIsNext = false;
                } else {
                    wordCodes[word] = wordCodes[word] * LETTER_BASE + letterCode(sign);
                }
            }
        }

        // The tape

        int length() {
            return length;
        }

        boolean hasRoomFor(int more) {
            return length + more <= MOST_BYTES;
        }

        void append(int fourBytes) {
            for (int shift = 24; shift >= 0; shift -= 8) {
                if (length >= 0 && length < tape.length) {
                    tape[length] = (byte) (fourBytes >>> shift);
                    length++;
                }
            }
        }

        boolean dropLast(int n) {
            if (n < 0 || n > length) {
                return false;
            }
            length -= n;
            return true;
        }

        private int byteAt(int at) {
            return at >= 0 && at < length && at < tape.length ? tape[at] : 0;
        }

        // The tokens that the last scan has taken

        int size() {
            return size;
        }

        int faultPlace() {
            return faultPlace;
        }

        int kindAt(int i) {
            return i >= 0 && i < size && i < kinds.length ? kinds[i] : END;
        }

        int intAt(int i) {
            return (int) valueAt(i);
        }

        long valueAt(int i) {
            return i >= 0 && i < size && i < values.length ? values[i] : 0;
        }

        int placeAt(int i) {
            return i >= 0 && i < size && i < places.length ? places[i] : length;
        }

        // The scan

        /** The number of the first fault against the form of a text; 0 without. */
        int scan() {
            size = 0;
            placeBehind = 0;
            faultPlace = NONE;
            shape = "Li;";
            shapeAt = 0;
            depth = 0;
            parts = 0;
            for (int taken = 0; taken <= MOST_TOKENS; taken++) {
                lookAtNext();
                int fault = faultOfToken();
                if (fault != 0) {
                    faultPlace = place;
                    return fault;
                }
                if (kind == END) {
                    return 0;
                }
                keepToken();
            }
            return ROOM;
        }

        private int faultOfToken() {
            if (kind == NO_TOKEN || !goesOn()) {
                return SYNTAX;
            }
            boolean noRoom = kind != END && size >= MOST_TOKENS
                    || parts > MOST_PARTS || depth > MOST_DEPTH;
            return noRoom ? ROOM : 0;
        }

        private void keepToken() {
            if (size < 0 || size >= MOST_TOKENS) {
                return;
            }
            kinds[size] = kind;
            values[size] = value;
            places[size] = place;
            size++;
        }

        /** Whether a text can go on with the token; then it is gone over. */
        private boolean goesOn() {
            if (shapeAt < shape.length()) {
                return goesOnInShape();
            }
            if (kind == END) {
                return depth == 0;
            }
            if (kind == CLOSED) {
                depth--;
                return depth >= 0;
            }
            if (kind == PART) {
                if (depth > 0) {
                    return false;
                }
                parts++;
            }
            shape = shapeBehind(kind);
            shapeAt = 0;
            return !shape.isEmpty();
        }

        private boolean goesOnInShape() {
            int due = shape.charAt(shapeAt);
            while (kind != due && (due == UPSIDE || due == TURNED)
                    && shapeAt + 1 < shape.length()) {
                shapeAt++;
                due = shape.charAt(shapeAt);
            }
            if (kind != due) {
                return false;
            }
            shapeAt++;
            if (kind == OPEN) {
                depth++;
            }
            return true;
        }

        private static String shapeBehind(int first) {
            switch (first) {
                case RUNG:
                case GATE:
                case BACK:
                    return "i;";
                case MAYBE:
                    return "iii;";
                case USE:
                    return "nut;";
                case TIMES:
                    return "i{";
                case PART:
                    return "n{";
                default:
                    return "";
            }
        }

        private void lookAtNext() {
            int at = placeBehind;
            while (at < length && isBlank(byteAt(at))) {
                at++;
            }
            place = at;
            value = 0;
            int sign = byteAt(at);
            if (at >= length) {
                kind = END;
                placeBehind = at;
            } else if (isLetter(sign)) {
                takeLetters();
            } else if (isDigit(sign)) {
                takeDigits();
            } else {
                boolean known = sign == ';' || sign == OPEN || sign == CLOSED;
                kind = known ? sign : NO_TOKEN;
                placeBehind = at + 1;
            }
        }

        private void takeLetters() {
            int at = place;
            for (; at < length && isLetter(byteAt(at)); at++) {
                value = value * LETTER_BASE + letterCode(byteAt(at));
            }
            placeBehind = at;
            kind = at - place > MOST_LETTERS ? NO_TOKEN : kindOfWord(value);
        }

        private void takeDigits() {
            int at = place;
            for (; at < length && isDigit(byteAt(at)); at++) {
                value = value * 10 + byteAt(at) - '0';
            }
            placeBehind = at;
            kind = at - place > MOST_DIGITS ? NO_TOKEN : INT;
        }

        private int kindOfWord(long code) {
            for (int word = 0; word < wordCodes.length && word < wordKinds.length; word++) {
                if (wordCodes[word] == code) {
                    return wordKinds[word];
                }
            }
            return NAME;
        }

        private static int letterCode(int sign) {
            return sign - 'a' + 1;
        }

        private static boolean isLetter(int sign) {
            return sign >= 'a' && sign <= 'z';
        }

        private static boolean isDigit(int sign) {
            return sign >= '0' && sign <= '9';
        }

        private static boolean isBlank(int sign) {
            return sign == 9 || sign == 10 || sign == 13 || sign == 32;
        }
    }

    /** What the tokens of a text without a fault in its form tell, and the faults in that. */
    private static final class Teller {
        private static final int TWICE = 3;
        private static final int NAME = 4;
        private static final int WRONG = 5;
        private static final int LONG = 6;
        private static final int MOST_TIMES = 20;
        private static final int MOST_WAYS = 4;

        private final Ladder whole;
        private final Ladder[] parts;
        private final long[] names;
        private final int[] timesSize;
        private final int[] timesMaybes;
        private final int[] timesCount;
        private Tokens tokens;
        /** The ladder or part to which elements come now. */
        private Ladder into;
        private int legs;
        private int at;
        private int partsClosed;
        private int partsNamed;
        private int timesOpen;
        private int tellPlace;
        private int fault;
        private int faultPlace;

        Teller() {
            whole = new Ladder();
            parts = new Ladder[Tokens.MOST_PARTS];
            for (int i = 0; i < parts.length; i++) {
                parts[i] = new Ladder();
            }
            names = new long[Tokens.MOST_PARTS];
            timesSize = new int[Tokens.MOST_DEPTH];
            timesMaybes = new int[Tokens.MOST_DEPTH];
            timesCount = new int[Tokens.MOST_DEPTH];
            into = whole;
            faultPlace = NONE;
        }

        Ladder told() {
            return whole;
        }

        int faultPlace() {
            return faultPlace;
        }

        /** The number of the first fault in what is told; 0 without. */
        int tell(Tokens scanned) {
            tokens = scanned;
            fault = 0;
            faultPlace = NONE;
            partsClosed = 0;
            partsNamed = 0;
            timesOpen = 0;
            tellLegs();
            into = whole;
            whole.begin(legs, 0);
            at = 3;
            for (int told = 0; at < tokens.size() && told < tokens.size(); told++) {
                tellNext();
            }
            return fault;
        }

        private void note(int number, int place) {
            boolean first = fault == 0 || place < faultPlace
                    || place == faultPlace && number < fault;
            if (first) {
                fault = number;
                faultPlace = place;
            }
        }

        private void tellLegs() {
            legs = tokens.intAt(1);
            if (!Orders.fits(legs)) {
                note(WRONG, tokens.placeAt(1));
                legs = Orders.MOST_LEGS;
            }
        }

        private void tellNext() {
            if (into == whole && timesOpen == 0) {
                tellPlace = tokens.placeAt(at);
            }
            switch (tokens.kindAt(at)) {
                case Tokens.PART:
                    openPart();
                    break;
                case Tokens.TIMES:
                    openTimes();
                    break;
                case Tokens.CLOSED:
                    close();
                    break;
                case Tokens.USE:
                    tellUse();
                    break;
                case Tokens.MAYBE:
                    tellMaybe();
                    break;
                case Tokens.GATE:
                    tellPair(Ladder.GATE);
                    break;
                case Tokens.BACK:
                    tellPair(Ladder.BACK);
                    break;
                default:
                    tellPair(Ladder.RUNG);
                    break;
            }
            if (into == whole && timesOpen == 0 && whole.isTooLong()) {
                note(LONG, tellPlace);
            }
        }

        private void tellPair(int kind) {
            into.add(kind, tellLeg(), 0, 0);
            at += 3;
        }

        private int tellLeg() {
            int leg = tokens.intAt(at + 1);
            if (leg > legs - 2) {
                note(WRONG, tokens.placeAt(at + 1));
            }
            return leg;
        }

        private void tellMaybe() {
            int leg = tellLeg();
            int there = tokens.intAt(at + 2);
            int ways = tokens.intAt(at + 3);
            if (there > ways) {
                note(WRONG, tokens.placeAt(at + 2));
            }
            if (ways < 1 || ways > MOST_WAYS) {
                note(WRONG, tokens.placeAt(at + 3));
            }
            into.add(Ladder.MAYBE, leg, there, ways);
            at += 5;
        }

        private void tellUse() {
            int part = closedPart(tokens.valueAt(at + 1));
            if (part < 0) {
                note(NAME, tokens.placeAt(at + 1));
            }
            at += 2;
            boolean upside = tokens.kindAt(at) == Tokens.UPSIDE;
            if (upside) {
                at++;
            }
            boolean turned = tokens.kindAt(at) == Tokens.TURNED;
            if (turned) {
                at++;
            }
            at++;
            if (part >= 0 && part < parts.length) {
                into.addAll(parts[part], upside, turned);
            }
        }

        private int closedPart(long name) {
            for (int part = 0; part < partsClosed && part < names.length; part++) {
                if (names[part] == name) {
                    return part;
                }
            }
            return NONE;
        }

        private void openTimes() {
            int times = tokens.intAt(at + 1);
            if (times > MOST_TIMES) {
                note(WRONG, tokens.placeAt(at + 1));
            }
            if (timesOpen >= 0 && timesOpen < Tokens.MOST_DEPTH) {
                timesSize[timesOpen] = into.size();
                timesMaybes[timesOpen] = into.maybes();
                timesCount[timesOpen] = times;
                timesOpen++;
            }
            at += 3;
        }

        private void openPart() {
            long name = tokens.valueAt(at + 1);
            tellPlace = tokens.placeAt(at + 1);
            if (closedPart(name) >= 0) {
                note(TWICE, tellPlace);
            }
            if (partsNamed >= 0 && partsNamed < parts.length && partsNamed < names.length) {
                names[partsNamed] = name;
                into = parts[partsNamed];
                into.begin(legs, 0);
                partsNamed++;
            }
            at += 3;
        }

        private void close() {
            at++;
            if (timesOpen > 0 && timesOpen <= Tokens.MOST_DEPTH) {
                timesOpen--;
                into.repeat(timesSize[timesOpen], timesMaybes[timesOpen], timesCount[timesOpen]);
                return;
            }
            if (into.isTooLong()) {
                note(LONG, tellPlace);
            }
            into = whole;
            partsClosed = partsNamed;
        }
    }
}
