/**
 * Plans closed walks that go along every street of a small town.
 *
 * Sets of streets and sets of corners are ints: bit s stands for street s, bit c for corner c.
 */
public final class StreetWalker {
    public static final int NONE = -1;
    public static final int FULL = -2;

    private static final int CORNERS = 6;
    private static final int STREETS = 10;
    private static final int ALL_SETS = 1 << STREETS;
    private static final int GREATEST_LENGTH = 20;

    private final int[] firstEnds = new int[STREETS];
    private final int[] secondEnds = new int[STREETS];
    private final int[] lengths = new int[STREETS];
    private final int[] distances = new int[CORNERS];
    private int present;

    public StreetWalker() {
        present = 0;
    }

    public int build(int a, int b, int length) {
        if (a == b || !isCorner(a) || !isCorner(b) || !isLength(length)) {
            return NONE;
        }
        for (int s = 0; s < STREETS; s++) {
            if (!contains(present, s)) {
                firstEnds[s] = a;
                secondEnds[s] = b;
                lengths[s] = length;
                present |= 1 << s;
                return s;
            }
        }
        return FULL;
    }

    public boolean close(int s) {
        if (!isStreet(s)) {
            return false;
        }
        present &= ~(1 << s);
        return true;
    }

    public boolean setLength(int s, int length) {
        if (!isStreet(s) || !isLength(length)) {
            return false;
        }
        lengths[s] = length;
        return true;
    }

    public int streets() {
        return present;
    }

    public int odd() {
        return oddCorners(present);
    }

    public boolean connected() {
        int corners = cornersOf(present);
        int leastCorner = corners & -corners;
        return reachedFrom(leastCorner, present) == corners;
    }

    public int extra() {
        int best = bestAmong(0, present);
        return lengthOrNone(best);
    }

    public int bestSet() {
        return bestAmong(0, present);
    }

    public int extraWith(int s) {
        if (!isStreet(s)) {
            return NONE;
        }
        int best = bestAmong(1 << s, present);
        return lengthOrNone(best);
    }

    public int extraWithout(int s) {
        if (!isStreet(s)) {
            return NONE;
        }
        int best = bestAmong(0, present & ~(1 << s));
        return lengthOrNone(best);
    }

    public int way(int a, int b) {
        if (!isCorner(a) || !isCorner(b)) {
            return NONE;
        }
        for (int c = 0; c < CORNERS; c++) {
            distances[c] = NONE;
        }
        distances[a] = 0;
        // A shortest way needs to visit no corner twice, so it has fewer than CORNERS streets.
        for (int round = 1; round < CORNERS; round++) {
            shortenDistances();
        }
        return distances[b];
    }

    public int walkLength() {
        int best = bestAmong(0, present);
        if (best == NONE || !connected()) {
            return NONE;
        }
        return lengthOf(present) + lengthOf(best);
    }

    public int walkAt(int c, int k) {
        int corners = cornersOf(present);
        if (walkLength() == NONE || !isCorner(c) || !contains(corners, c)) {
            return NONE;
        }
        int twice = bestAmong(0, present);
        if (k < 0 || k >= sizeOf(present) + sizeOf(twice)) {
            return NONE;
        }
        return streetOfFirstWalk(c, k, twice);
    }

    private boolean isCorner(int c) {
        return c >= 0 && c < CORNERS;
    }

    private boolean isLength(int length) {
        return length >= 0 && length <= GREATEST_LENGTH;
    }

    private boolean isStreet(int s) {
        return s >= 0 && s < STREETS && contains(present, s);
    }

    private boolean contains(int set, int member) {
        return (set >> member & 1) == 1;
    }

    private int sizeOf(int set) {
        int size = 0;
        for (int s = 0; s < STREETS; s++) {
            size += set >> s & 1;
        }
        return size;
    }

    private int lengthOf(int set) {
        int sum = 0;
        for (int s = 0; s < STREETS; s++) {
            if (contains(set, s)) {
                sum += lengths[s];
            }
        }
        return sum;
    }

    private int lengthOrNone(int setOrNone) {
        return setOrNone == NONE ? NONE : lengthOf(setOrNone);
    }

    private int oddCorners(int set) {
        int corners = 0;
        for (int s = 0; s < STREETS; s++) {
            if (contains(set, s)) {
                corners ^= endsOf(s);
            }
        }
        return corners;
    }

    private int cornersOf(int set) {
        int corners = 0;
        for (int s = 0; s < STREETS; s++) {
            if (contains(set, s)) {
                corners |= endsOf(s);
            }
        }
        return corners;
    }

    private int endsOf(int s) {
        return 1 << firstEnds[s] | 1 << secondEnds[s];
    }

    private boolean endsAt(int s, int c) {
        return firstEnds[s] == c || secondEnds[s] == c;
    }

    private int otherEnd(int s, int c) {
        return firstEnds[s] == c ? secondEnds[s] : firstEnds[s];
    }

    /** The corners that one can get to from the given corners along the streets of the set. */
    private int reachedFrom(int corners, int set) {
        int reached = corners;
        // Each round goes at least one street further, and no corner is CORNERS streets away.
        for (int round = 1; round < CORNERS; round++) {
            for (int s = 0; s < STREETS; s++) {
                if (contains(set, s) && (reached & endsOf(s)) != 0) {
                    reached |= endsOf(s);
                }
            }
        }
        return reached;
    }

    /** The best of the extra sets that contain all of needed and nothing outside allowed, or NONE. */
    private int bestAmong(int needed, int allowed) {
        int odd = oddCorners(present);
        int best = NONE;
        for (int set = 0; set < ALL_SETS; set++) {
            boolean fits = (set & needed) == needed && (set & ~allowed) == 0;
            // A set evens out the town exactly when it is odd at the same corners as the town.
            if (fits && oddCorners(set) == odd && (best == NONE || isBetter(set, best))) {
                best = set;
            }
        }
        return best;
    }

    private boolean isBetter(int set, int other) {
        int length = lengthOf(set);
        int otherLength = lengthOf(other);
        if (length != otherLength) {
            return length < otherLength;
        }
        // Street 0 is the first digit of a row, so the least street in only one of the sets decides.
        int differing = set ^ other;
        int firstDiffering = differing & -differing;
        return (other & firstDiffering) != 0;
    }

    private void shortenDistances() {
        for (int s = 0; s < STREETS; s++) {
            if (contains(present, s)) {
                shortenDistance(firstEnds[s], secondEnds[s], lengths[s]);
                shortenDistance(secondEnds[s], firstEnds[s], lengths[s]);
            }
        }
    }

    private void shortenDistance(int from, int to, int length) {
        if (distances[from] == NONE) {
            return;
        }
        int distance = distances[from] + length;
        if (distances[to] == NONE || distance < distances[to]) {
            distances[to] = distance;
        }
    }

    /** Takes the least street at every step: that gives the least list, as no step taken is a dead end. */
    private int streetOfFirstWalk(int start, int k, int best) {
        int left = present;
        int twice = best;
        int here = start;
        int street = NONE;
        for (int i = 0; i <= k && i < 2 * STREETS; i++) {
            street = leastStep(here, left, twice);
            if (street == NONE) {
                return NONE;
            }
            here = otherEnd(street, here);
            left = leftAfter(street, left, twice);
            twice &= ~(1 << street);
        }
        return street;
    }

    /** The least street to take from a corner when left are yet to be walked, those in twice two times. */
    private int leastStep(int here, int left, int twice) {
        for (int s = 0; s < STREETS; s++) {
            if (contains(left, s) && endsAt(s, here)) {
                int next = otherEnd(s, here);
                int leftThen = leftAfter(s, left, twice);
                if (canWalkAll(next, leftThen)) {
                    return s;
                }
            }
        }
        return NONE;
    }

    private int leftAfter(int street, int left, int twice) {
        return contains(twice, street) ? left : left & ~(1 << street);
    }

    /** What is left always has the right parities, so a walk back to the start needs only that all can be reached. */
    private boolean canWalkAll(int here, int left) {
        int corners = cornersOf(left);
        int reached = reachedFrom(1 << here, left);
        return (corners & ~reached) == 0;
    }
}
