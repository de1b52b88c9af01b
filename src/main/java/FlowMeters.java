/**
 * A bench for works through which something flows: what the meters tell, made to balance with the
 * least change, exactly; and what can be seen, doubted and bought of meters.
 *
 * <p>Sets of flows are numbers: flow f counts 2 to the f. All fractions of one fit stand over one
 * number below, so that sums of them need no fractions; they are brought to lowest terms when told.
 * Every row is made in a constructor and used again, so no call makes an object.
 */
public final class FlowMeters {
    /** There is none. */
    public static final int NONE = -1;

    private static final int LEAST_KNOTS = 2;
    private static final int MOST_KNOTS = 6;
    private static final int MOST_FLOWS = 10;
    private static final int MOST_READING = 2000;
    private static final int MOST_MISS = 4;
    private static final int MOST_PRICE = 99;
    private static final int MOST_HOURS = 16;
    private static final int MOST_KEPT = 6;
    private static final int DOUBLES = 3;
    private static final int NO_NUMBER = -128;
    private static final int READING_PER_BYTE = 10;
    private static final int ABOVE = 0;
    private static final int BELOW = 1;
    /** Euclid's steps for any two longs are fewer than this. */
    private static final int MOST_GCD_STEPS = 128;

    private final Works now = new Works();
    private final Past past = new Past();
    private final Groups groups = new Groups();
    private final Fit fit = new Fit();
    /** By knot: how many unread flows lie between it and the end of a round; NONE if it is cut off. */
    private final int[] away = new int[MOST_KNOTS];
    /** By spare flow: the test if it were unread, a fraction. */
    private final long[] testAbove = new long[MOST_FLOWS];
    private final long[] testBelow = new long[MOST_FLOWS];

    /** Two knots, no flows. */
    public FlowMeters() {
        now.clear(LEAST_KNOTS);
    }

    /** Works of k knots, without flows. */
    public boolean works(int k) {
        if (k < LEAST_KNOTS || k > MOST_KNOTS) {
            return false;
        }
        past.keep(now);
        now.clear(k);
        return true;
    }

    /** A flow from knot a to knot b: its number. */
    public int flow(int a, int b) {
        if (!isKnot(a) || !isKnot(b) || a == b || now.flows >= MOST_FLOWS) {
            return NONE;
        }
        past.keep(now);
        return now.addFlow(a, b);
    }

    /** Flow f is read by m. */
    public boolean read(int f, int m) {
        if (!isFlow(f) || m < -MOST_READING || m > MOST_READING) {
            return false;
        }
        past.keep(now);
        now.setReading(f, m);
        return true;
    }

    /** Flow f is unread; false if it was. */
    public boolean unread(int f) {
        if (!isFlow(f) || !holds(now.readSet, f)) {
            return false;
        }
        past.keep(now);
        now.dropReading(f);
        return true;
    }

    /** The miss of flow f is v. */
    public boolean miss(int f, int v) {
        if (!isFlow(f) || v < 1 || v > MOST_MISS) {
            return false;
        }
        past.keep(now);
        now.miss[f] = v;
        return true;
    }

    /** The price of flow f is v. */
    public boolean price(int f, int v) {
        if (!isFlow(f) || v < 0 || v > MOST_PRICE) {
            return false;
        }
        past.keep(now);
        now.price[f] = v;
        return true;
    }

    /** A sheet of n numbers for flow f, from the bytes of a, b, c, d: n. */
    public int sheet(int f, int kind, int n, int a, int b, int c, int d) {
        if (!isFlow(f) || kind < 0 || kind > DOUBLES || n < 0 || n > MOST_HOURS) {
            return NONE;
        }
        past.keep(now);
        now.kind[f] = kind;
        now.length[f] = n;
        now.putBytes(f, 0, a);
        now.putBytes(f, 4, b);
        now.putBytes(f, 8, c);
        now.putBytes(f, 12, d);
        return n;
    }

    /** The sheet of flow f is lost; false if it has none. */
    public boolean lose(int f) {
        if (!isFlow(f) || now.kind[f] == NONE) {
            return false;
        }
        past.keep(now);
        now.kind[f] = NONE;
        now.length[f] = 0;
        return true;
    }

    /** Reads each flow by its sheet at hour h: how many are read then. */
    public int hour(int h) {
        if (h < 0 || h >= MOST_HOURS) {
            return NONE;
        }
        past.keep(now);
        for (int f = 0; f < now.flows; f++) {
            if (now.hasNumber(f, h)) {
                now.setReading(f, now.numberAt(f, h));
            } else {
                now.dropReading(f);
            }
        }
        return Integer.bitCount(now.readSet);
    }

    /** The latest call that is kept is taken back. */
    public boolean undo() {
        return past.takeBack(now);
    }

    /** How many there are: knots, flows, read, heaps, seen, spare, knots out of balance. */
    public int look(int what) {
        switch (what) {
            case 0:
                return now.knots;
            case 1:
                return now.flows;
            case 2:
                return Integer.bitCount(now.readSet);
            case 3:
                groups.gather(now, now.unreadSet());
                return groups.howMany(now.knots);
            case 4:
                return countSeen();
            case 5:
                return Integer.bitCount(spareSet());
            case 6:
                return countUnbalanced();
            default:
                return NONE;
        }
    }

    /** What flow f is: its knots, whether it is read, reading, miss, price, its sheet. */
    public int of(int f, int what) {
        if (!isFlow(f)) {
            return NONE;
        }
        switch (what) {
            case 0:
                return now.from[f];
            case 1:
                return now.to[f];
            case 2:
                return holds(now.readSet, f) ? 1 : 0;
            case 3:
                return now.reading[f];
            case 4:
                return now.miss[f];
            case 5:
                return now.price[f];
            case 6:
                return now.kind[f];
            case 7:
                return now.length[f];
            default:
                return NONE;
        }
    }

    /** The least knot of the heap of knot k. */
    public int heap(int k) {
        if (!isKnot(k)) {
            return NONE;
        }
        groups.gather(now, now.unreadSet());
        return groups.least[k];
    }

    /** 1 if flow f is seen, else 0. */
    public int seen(int f) {
        if (!isFlow(f)) {
            return NONE;
        }
        return isSeen(f) ? 1 : 0;
    }

    /** The value of flow f. */
    public long value(int f, int what) {
        if (!isFlow(f) || !isPart(what) || !isSeen(f)) {
            return NONE;
        }
        fit.solve(now, now.unreadSet());
        return lowestTerms(fit.valueAbove(now, f), fit.below, what);
    }

    /** The change of read flow f in the fit. */
    public long change(int f, int what) {
        if (!isFlow(f) || !isPart(what) || !holds(now.readSet, f)) {
            return NONE;
        }
        fit.solve(now, now.unreadSet());
        return lowestTerms(fit.changeAbove(now, f), fit.below, what);
    }

    /** The force of the heap of knot k. */
    public long force(int k, int what) {
        if (!isKnot(k) || !isPart(what)) {
            return NONE;
        }
        fit.solve(now, now.unreadSet());
        return lowestTerms(fit.forceAbove(k), fit.below, what);
    }

    /** The test: the least sum. */
    public long test(int what) {
        if (!isPart(what)) {
            return NONE;
        }
        fit.solve(now, now.unreadSet());
        return lowestTerms(fit.testAbove(now.knots), fit.below, what);
    }

    /** Flow i of the round of flow f, that is not seen. */
    public int round(int f, int i) {
        if (!isFlow(f) || i < 0 || i >= MOST_KNOTS || isSeen(f)) {
            return NONE;
        }
        int others = now.unreadSet() & ~bit(f);
        measureAway(now.from[f], others);
        int found = f;
        int knot = now.to[f];
        for (int step = 0; step < i && found != NONE; step++) {
            found = firstFlowNearer(knot, others);
            if (found != NONE) {
                knot = now.otherEnd(found, knot);
            }
        }
        return found;
    }

    /** 1 if flow f is spare, else 0. */
    public int spare(int f) {
        if (!isFlow(f)) {
            return NONE;
        }
        return holds(spareSet(), f) ? 1 : 0;
    }

    /** The fall of flow f: the test less the test if it were unread. */
    public long fall(int f, int what) {
        if (!isFlow(f) || !isPart(what) || !holds(spareSet(), f)) {
            return NONE;
        }
        fit.solve(now, now.unreadSet());
        long withAbove = fit.testAbove(now.knots);
        long withBelow = fit.below;
        fit.solve(now, now.unreadSet() | bit(f));
        long without = fit.testAbove(now.knots);
        return lowestTerms(withAbove * fit.below - without * withBelow, withBelow * fit.below, what);
    }

    /** The lie of flow f: its reading less its value if it were unread. */
    public long lie(int f, int what) {
        if (!isFlow(f) || !isPart(what) || !holds(spareSet(), f)) {
            return NONE;
        }
        fit.solve(now, now.unreadSet() | bit(f));
        return lowestTerms(now.reading[f] * fit.below - fit.valueAbove(now, f), fit.below, what);
    }

    /** The i-th flow by rank. */
    public int rank(int i) {
        int spares = spareSet();
        if (i < 0 || i >= Integer.bitCount(spares)) {
            return NONE;
        }
        testWithoutEach(spares);
        for (int f = 0; f < now.flows; f++) {
            if (holds(spares, f) && countAhead(f, spares) == i) {
                return f;
            }
        }
        return NONE;
    }

    /** Whether flows e and f are alike. */
    public boolean alike(int e, int f) {
        if (!isFlow(e) || !isFlow(f) || e == f) {
            return false;
        }
        groups.gather(now, now.unreadSet());
        if (!isSpareIn(e) || !isSpareIn(f)) {
            return false;
        }
        // A round through both must leave a heap by the one and come back to it by the other, and
        // within a heap there is always a way: so they are alike if they part the same two heaps.
        int fromE = groups.least[now.from[e]];
        int toE = groups.least[now.to[e]];
        int fromF = groups.least[now.from[f]];
        int toF = groups.least[now.to[f]];
        return fromE == fromF && toE == toF || fromE == toF && toE == fromF;
    }

    /** The cheapest set of unread flows that shows all, or surely: its price, or the set. */
    public int least(boolean surely, int what) {
        if (what != 0 && what != 1) {
            return NONE;
        }
        int unread = now.unreadSet();
        int best = NONE;
        int bestPrice = 0;
        // By rising number: of several of the least sum the first one stays.
        for (int set = 0; set <= unread; set++) {
            if ((set & ~unread) != 0) {
                continue;
            }
            int sum = now.priceOfSet(set);
            if ((best == NONE || sum < bestPrice) && shows(unread & ~set, surely)) {
                best = set;
                bestPrice = sum;
            }
        }
        if (best == NONE) {
            return NONE;
        }
        return what == 0 ? bestPrice : best;
    }

    private boolean isKnot(int k) {
        return k >= 0 && k < now.knots;
    }

    private boolean isFlow(int f) {
        return f >= 0 && f < now.flows;
    }

    private static boolean isPart(int what) {
        return what == ABOVE || what == BELOW;
    }

    private static int bit(int f) {
        return 1 << f;
    }

    private static boolean holds(int set, int f) {
        return (set >> f & 1) != 0;
    }

    /** A part of the fraction above / below; below is above 0. */
    private static long lowestTerms(long above, long below, int what) {
        long common = commonDivisor(Math.abs(above), below);
        if (common < 1) {
            return NONE;
        }
        return what == ABOVE ? above / common : below / common;
    }

    private static long commonDivisor(long a, long b) {
        long greater = a;
        long lesser = b;
        for (int step = 0; step < MOST_GCD_STEPS && lesser != 0; step++) {
            long rest = greater % lesser;
            greater = lesser;
            lesser = rest;
        }
        return greater;
    }

    /** An unread flow is in no round of unread ones if the others do not join its ends. */
    private boolean isSeen(int f) {
        if (holds(now.readSet, f)) {
            return true;
        }
        groups.gather(now, now.unreadSet() & ~bit(f));
        return groups.parts(now, f);
    }

    private int countSeen() {
        int count = 0;
        for (int f = 0; f < now.flows; f++) {
            if (isSeen(f)) {
                count++;
            }
        }
        return count;
    }

    private boolean isSpareIn(int f) {
        return holds(now.readSet, f) && groups.parts(now, f);
    }

    private int spareSet() {
        groups.gather(now, now.unreadSet());
        int set = 0;
        for (int f = 0; f < now.flows; f++) {
            if (isSpareIn(f)) {
                set |= bit(f);
            }
        }
        return set;
    }

    private int countUnbalanced() {
        int count = 0;
        for (int k = 0; k < now.knots; k++) {
            if (now.isAllReadAt(k) && now.surplusAt(k) != 0) {
                count++;
            }
        }
        return count;
    }

    /** Tells in away how many flows of the set lead from each knot to the end, at the fewest. */
    private void measureAway(int end, int set) {
        for (int k = 0; k < MOST_KNOTS; k++) {
            away[k] = NONE;
        }
        away[end] = 0;
        for (int far = 0; far < MOST_KNOTS; far++) {
            for (int f = 0; f < now.flows; f++) {
                if (holds(set, f)) {
                    reachOver(now.from[f], now.to[f], far);
                    reachOver(now.to[f], now.from[f], far);
                }
            }
        }
    }

    private void reachOver(int near, int next, int far) {
        if (away[near] == far && away[next] == NONE) {
            away[next] = far + 1;
        }
    }

    /** The first flow of the set that leads from the knot to one that is less far away. */
    private int firstFlowNearer(int knot, int set) {
        for (int f = 0; f < now.flows; f++) {
            if (holds(set, f) && now.touches(f, knot)
                    && away[knot] > 0 && away[now.otherEnd(f, knot)] == away[knot] - 1) {
                return f;
            }
        }
        return NONE;
    }

    private void testWithoutEach(int spares) {
        for (int f = 0; f < now.flows; f++) {
            if (holds(spares, f)) {
                fit.solve(now, now.unreadSet() | bit(f));
                testAbove[f] = fit.testAbove(now.knots);
                testBelow[f] = fit.below;
            }
        }
    }

    /**
     * How many spare flows stand ahead of f by rank. The greater fall is the lesser test without
     * the flow; that has the lesser numbers, so that the products below stay within a long.
     */
    private int countAhead(int f, int spares) {
        int count = 0;
        for (int e = 0; e < now.flows; e++) {
            if (e == f || !holds(spares, e)) {
                continue;
            }
            long ofE = testAbove[e] * testBelow[f];
            long ofF = testAbove[f] * testBelow[e];
            if (ofE < ofF || ofE == ofF && e < f) {
                count++;
            }
        }
        return count;
    }

    /** Whether all is seen with these unread; surely: with any one more unread, too. */
    private boolean shows(int unread, boolean surely) {
        if (!groups.gather(now, unread)) {
            return false;
        }
        if (!surely) {
            return true;
        }
        for (int f = 0; f < now.flows; f++) {
            // One more unread closes a round just if its ends hang together already.
            if (!holds(unread, f) && !groups.parts(now, f)) {
                return false;
            }
        }
        return true;
    }

    /** The knots and the flows, with their meters, prices and sheets. */
    private static final class Works {
        int knots;
        int flows;
        int readSet;
        final int[] from = new int[MOST_FLOWS];
        final int[] to = new int[MOST_FLOWS];
        final int[] reading = new int[MOST_FLOWS];
        final int[] miss = new int[MOST_FLOWS];
        final int[] price = new int[MOST_FLOWS];
        final int[] kind = new int[MOST_FLOWS];
        final int[] length = new int[MOST_FLOWS];
        /** The bytes of all sheets, those of one flow behind those of another. */
        final int[] bytes = new int[MOST_FLOWS * MOST_HOURS];

        void clear(int k) {
            knots = k;
            flows = 0;
            readSet = 0;
        }

        void copyFrom(Works other) {
            knots = other.knots;
            flows = other.flows;
            readSet = other.readSet;
            System.arraycopy(other.from, 0, from, 0, MOST_FLOWS);
            System.arraycopy(other.to, 0, to, 0, MOST_FLOWS);
            System.arraycopy(other.reading, 0, reading, 0, MOST_FLOWS);
            System.arraycopy(other.miss, 0, miss, 0, MOST_FLOWS);
            System.arraycopy(other.price, 0, price, 0, MOST_FLOWS);
            System.arraycopy(other.kind, 0, kind, 0, MOST_FLOWS);
            System.arraycopy(other.length, 0, length, 0, MOST_FLOWS);
            System.arraycopy(other.bytes, 0, bytes, 0, MOST_FLOWS * MOST_HOURS);
        }

        int addFlow(int a, int b) {
            int f = flows;
            flows++;
            from[f] = a;
            to[f] = b;
            dropReading(f);
            miss[f] = 1;
            price[f] = 1;
            kind[f] = NONE;
            length[f] = 0;
            return f;
        }

        void setReading(int f, int m) {
            readSet |= bit(f);
            reading[f] = m;
        }

        void dropReading(int f) {
            readSet &= ~bit(f);
            reading[f] = 0;
        }

        int allSet() {
            return bit(flows) - 1;
        }

        int unreadSet() {
            return allSet() & ~readSet;
        }

        int priceOfSet(int set) {
            int sum = 0;
            for (int f = 0; f < flows; f++) {
                if (holds(set, f)) {
                    sum += price[f];
                }
            }
            return sum;
        }

        /** The four bytes of a word, the highest one first, into the sheet of flow f from an hour on. */
        void putBytes(int f, int hour, int word) {
            int start = f * MOST_HOURS + hour;
            bytes[start] = word >> 24;
            bytes[start + 1] = word << 8 >> 24;
            bytes[start + 2] = word << 16 >> 24;
            bytes[start + 3] = word << 24 >> 24;
        }

        boolean hasNumber(int f, int hour) {
            if (kind[f] == NONE || hour >= length[f]) {
                return false;
            }
            return kind[f] != DOUBLES || bytes[f * MOST_HOURS + hour] != NO_NUMBER;
        }

        int numberAt(int f, int hour) {
            return bytes[f * MOST_HOURS + hour] * READING_PER_BYTE;
        }

        boolean touches(int f, int knot) {
            return from[f] == knot || to[f] == knot;
        }

        int otherEnd(int f, int knot) {
            return from[f] == knot ? to[f] : from[f];
        }

        boolean isAllReadAt(int knot) {
            for (int f = 0; f < flows; f++) {
                if (touches(f, knot) && !holds(readSet, f)) {
                    return false;
                }
            }
            return true;
        }

        /** By the readings: what comes to the knot less what goes from it. */
        int surplusAt(int knot) {
            int sum = 0;
            for (int f = 0; f < flows; f++) {
                if (to[f] == knot) {
                    sum += reading[f];
                }
                if (from[f] == knot) {
                    sum -= reading[f];
                }
            }
            return sum;
        }
    }

    /** The works as they stood ahead of each call that is kept. */
    private static final class Past {
        final Works[] kept = new Works[MOST_KEPT];
        int next = 0;
        int count = 0;

        Past() {
            for (int i = 0; i < MOST_KEPT; i++) {
                kept[i] = new Works();
            }
        }

        void keep(Works works) {
            kept[next].copyFrom(works);
            next = (next + 1) % MOST_KEPT;
            count = Math.min(count + 1, MOST_KEPT);
        }

        boolean takeBack(Works works) {
            if (count == 0) {
                return false;
            }
            next = (next + MOST_KEPT - 1) % MOST_KEPT;
            count--;
            works.copyFrom(kept[next]);
            return true;
        }
    }

    /** Knots that hang together by a set of flows, each group told by its least knot. */
    private static final class Groups {
        final int[] least = new int[MOST_KNOTS];

        /** Gathers the knots by the flows of the set: true if these hold no round. */
        boolean gather(Works works, int set) {
            for (int k = 0; k < MOST_KNOTS; k++) {
                least[k] = k;
            }
            boolean roundless = true;
            for (int f = 0; f < works.flows; f++) {
                if (!holds(set, f)) {
                    continue;
                }
                if (parts(works, f)) {
                    join(least[works.from[f]], least[works.to[f]]);
                } else {
                    roundless = false;
                }
            }
            return roundless;
        }

        private void join(int a, int b) {
            int low = Math.min(a, b);
            int high = Math.max(a, b);
            for (int k = 0; k < MOST_KNOTS; k++) {
                if (least[k] == high) {
                    least[k] = low;
                }
            }
        }

        /** Whether flow f goes from one group to another. */
        boolean parts(Works works, int f) {
            return least[works.from[f]] != least[works.to[f]];
        }

        int howMany(int knots) {
            int count = 0;
            for (int k = 0; k < knots; k++) {
                if (least[k] == k) {
                    count++;
                }
            }
            return count;
        }
    }

    /**
     * The fit with some flows unread. The forces solve a system of whole numbers with a row for each
     * heap whose force is not 0 by rule; the elimination keeps to whole numbers: what it divides by
     * always goes into each number. With 6 knots, 10 flows and a miss of 4 the numbers of the system
     * stay below 1e10 and their products below 1e15, far within a long.
     */
    private static final class Fit {
        private static final int RIGHT = MOST_KNOTS;

        final Groups heaps = new Groups();
        final Groups pieces = new Groups();
        final Groups sides = new Groups();
        /** By heap: its row of the system, and behind that its right side; later its force. */
        final long[][] rows = new long[MOST_KNOTS][MOST_KNOTS + 1];
        /** By heap: what comes to it less what goes from it, by the readings. */
        final long[] surplus = new long[MOST_KNOTS];
        int unread = 0;
        /** The number below all fractions of this fit. */
        long below = 1;

        void solve(Works works, int unreadSet) {
            unread = unreadSet;
            heaps.gather(works, unreadSet);
            pieces.gather(works, works.allSet());
            fillSystem(works);
            eliminate(works.knots);
        }

        /** A heap's own row; not of the heap with the least knot of a piece: its force is 0. */
        private boolean hasRow(int knot) {
            return heaps.least[knot] == knot && pieces.least[knot] != knot;
        }

        private void fillSystem(Works works) {
            for (int k = 0; k < works.knots; k++) {
                for (int j = 0; j <= RIGHT; j++) {
                    rows[k][j] = 0;
                }
                // A knot without a row of its own gets "its force is 0".
                rows[k][k] = hasRow(k) ? 0 : 1;
                surplus[k] = 0;
            }
            for (int f = 0; f < works.flows; f++) {
                if (!holds(unread, f) && heaps.parts(works, f)) {
                    addMeter(heaps.least[works.from[f]], heaps.least[works.to[f]],
                            works.miss[f], works.reading[f]);
                }
            }
            for (int k = 0; k < works.knots; k++) {
                rows[k][RIGHT] = hasRow(k) ? -surplus[k] : 0;
            }
        }

        private void addMeter(int source, int goal, int miss, int reading) {
            surplus[source] -= reading;
            surplus[goal] += reading;
            if (hasRow(source)) {
                rows[source][source] += miss;
            }
            if (hasRow(goal)) {
                rows[goal][goal] += miss;
            }
            if (hasRow(source) && hasRow(goal)) {
                rows[source][goal] -= miss;
                rows[goal][source] -= miss;
            }
        }

        private void eliminate(int knots) {
            below = 1;
            for (int p = 0; p < knots; p++) {
                long pivot = rows[p][p];
                // It counts trees of meters that hang on a heap of force 0: there is always one.
                if (pivot < 1) {
                    return;
                }
                for (int i = 0; i < knots; i++) {
                    if (i != p) {
                        clearColumn(i, p, pivot);
                    }
                }
                below = pivot;
            }
        }

        private void clearColumn(int i, int p, long pivot) {
            long before = below;
            if (before < 1) {
                return;
            }
            long lead = rows[i][p];
            for (int j = 0; j <= RIGHT; j++) {
                rows[i][j] = (pivot * rows[i][j] - lead * rows[p][j]) / before;
            }
        }

        long forceAbove(int knot) {
            return rows[heaps.least[knot]][RIGHT];
        }

        long changeAbove(Works works, int f) {
            return works.miss[f] * (forceAbove(works.to[f]) - forceAbove(works.from[f]));
        }

        private long fittedAbove(Works works, int f) {
            return works.reading[f] * below + changeAbove(works, f);
        }

        /** The value of a flow that is seen. */
        long valueAbove(Works works, int f) {
            if (!holds(unread, f)) {
                return fittedAbove(works, f);
            }
            // Without f its heap falls in two; f takes away what meters bring to the side it leaves.
            sides.gather(works, unread & ~bit(f));
            int side = sides.least[works.from[f]];
            long sum = 0;
            for (int e = 0; e < works.flows; e++) {
                if (!holds(unread, e)) {
                    sum += sides.least[works.to[e]] == side ? fittedAbove(works, e) : 0;
                    sum -= sides.least[works.from[e]] == side ? fittedAbove(works, e) : 0;
                }
            }
            return sum;
        }

        /** The least sum: the forces times what the readings lack at the heaps comes to the same. */
        long testAbove(int knots) {
            long sum = 0;
            for (int k = 0; k < knots; k++) {
                sum -= rows[k][RIGHT] * surplus[k];
            }
            return sum;
        }
    }
}
