/**
 * Keeps track of which flat boxes overlap while they move.
 *
 * Ten boxes are so few that every answer is worked out afresh from the spans:
 * nothing is kept beside them that could fall out of step.
 */
public final class SweepPairs {
    public static final int BAD = -1;

    private static final int BOXES = 10;
    private static final int TOP = 99;

    private static final int SPAN_BASE = 100;
    private static final int SPAN_CODES = 10000;

    private static final int X = 0;
    private static final int Y = 1;
    private static final int AXES = 2;
    private static final int SPANS = 20;

    // Bit k for box k, as boxes() answers it.
    private int there = 0;

    // The span of box k along an axis is at AXES * k + axis, so that one method serves
    // both axes.
    private final int[] lows = new int[SPANS];
    private final int[] highs = new int[SPANS];

    public SweepPairs() {
    }

    public int put(int k, int xs, int ys) {
        if (k < 0 || k >= BOXES || !isSpan(xs) || !isSpan(ys)) {
            return BAD;
        }
        int before = partners(k);
        there |= 1 << k;
        setSpan(k, X, xs);
        setSpan(k, Y, ys);
        return changesSince(before, k);
    }

    public int move(int k, int dx, int dy) {
        if (!isThere(k) || !staysInside(k, X, dx) || !staysInside(k, Y, dy)) {
            return BAD;
        }
        int before = partners(k);
        shift(k, X, dx);
        shift(k, Y, dy);
        return changesSince(before, k);
    }

    public int remove(int k) {
        if (!isThere(k)) {
            return BAD;
        }
        int before = partners(k);
        there &= ~(1 << k);
        return countBits(before);
    }

    public int boxes() {
        return there;
    }

    public int edge(int k, int what) {
        if (!isThere(k) || what < 0 || what > 3) {
            return BAD;
        }
        int span = AXES * k + what / 2;
        return what % 2 == 0 ? lows[span] : highs[span];
    }

    public int partners(int k) {
        int found = 0;
        for (int other = 0; other < BOXES; other++) {
            if (overlap(k, other)) {
                found |= 1 << other;
            }
        }
        return found;
    }

    public int pairs() {
        int count = 0;
        for (int a = 0; a < BOXES; a++) {
            for (int b = a + 1; b < BOXES; b++) {
                if (overlap(a, b)) {
                    count++;
                }
            }
        }
        return count;
    }

    public int pair(int n) {
        int passed = 0;
        for (int a = 0; a < BOXES; a++) {
            for (int b = a + 1; b < BOXES; b++) {
                if (overlap(a, b)) {
                    if (passed == n) {
                        return 10 * a + b;
                    }
                    passed++;
                }
            }
        }
        return BAD;
    }

    public int cluster(int k) {
        if (!isThere(k)) {
            return 0;
        }
        int reached = 1 << k;
        // A way that visits no box twice has fewer steps than there are boxes.
        for (int step = 1; step < BOXES; step++) {
            for (int j = 0; j < BOXES; j++) {
                if ((reached >> j & 1) == 1) {
                    reached |= partners(j);
                }
            }
        }
        return reached;
    }

    public int clusters() {
        int count = 0;
        for (int k = 0; k < BOXES; k++) {
            int lesserBoxes = (1 << k) - 1;
            // Each cluster is counted once, at its least box.
            if (isThere(k) && (cluster(k) & lesserBoxes) == 0) {
                count++;
            }
        }
        return count;
    }

    public int at(int x, int y) {
        int found = 0;
        for (int k = 0; k < BOXES; k++) {
            if (isThere(k) && covers(k, X, x) && covers(k, Y, y)) {
                found |= 1 << k;
            }
        }
        return found;
    }

    public int deepest() {
        int most = 0;
        // What some boxes have in common begins, along each axis, at the low of one
        // of them, so no other points need to be tried.
        for (int a = 0; a < BOXES; a++) {
            for (int b = 0; b < BOXES; b++) {
                if (isThere(a) && isThere(b)) {
                    int depth = depthAt(lows[AXES * a + X], lows[AXES * b + Y]);
                    most = depth > most ? depth : most;
                }
            }
        }
        return most;
    }

    public int rank(int k, int axis) {
        if (!isThere(k) || (axis != X && axis != Y)) {
            return BAD;
        }
        int count = 0;
        for (int other = 0; other < BOXES; other++) {
            if (isThere(other) && comesBefore(other, k, axis)) {
                count++;
            }
        }
        return count;
    }

    public boolean within(int a, int b) {
        return a != b && isThere(a) && isThere(b)
                && spanWithin(a, b, X) && spanWithin(a, b, Y);
    }

    private boolean isThere(int k) {
        return k >= 0 && k < BOXES && (there >> k & 1) == 1;
    }

    private boolean isSpan(int code) {
        return code >= 0 && code < SPAN_CODES && code % SPAN_BASE <= code / SPAN_BASE;
    }

    private void setSpan(int k, int axis, int code) {
        lows[AXES * k + axis] = code % SPAN_BASE;
        highs[AXES * k + axis] = code / SPAN_BASE;
    }

    private void shift(int k, int axis, int by) {
        lows[AXES * k + axis] += by;
        highs[AXES * k + axis] += by;
    }

    // Nothing is added to `by`, which may be so great that the sum would wrap around.
    private boolean staysInside(int k, int axis, int by) {
        return by >= -lows[AXES * k + axis] && by <= TOP - highs[AXES * k + axis];
    }

    private boolean covers(int k, int axis, int place) {
        return lows[AXES * k + axis] <= place && place <= highs[AXES * k + axis];
    }

    private boolean overlap(int a, int b) {
        return a != b && isThere(a) && isThere(b)
                && spansMeet(a, b, X) && spansMeet(a, b, Y);
    }

    // As low <= high holds for each box, the greater low is at most the lesser high
    // just when each low is at most the other's high.
    private boolean spansMeet(int a, int b, int axis) {
        return lows[AXES * a + axis] <= highs[AXES * b + axis]
                && lows[AXES * b + axis] <= highs[AXES * a + axis];
    }

    private boolean spanWithin(int a, int b, int axis) {
        return lows[AXES * a + axis] >= lows[AXES * b + axis]
                && highs[AXES * a + axis] <= highs[AXES * b + axis];
    }

    private boolean comesBefore(int a, int b, int axis) {
        int lowA = lows[AXES * a + axis];
        int lowB = lows[AXES * b + axis];
        return lowA < lowB || (lowA == lowB && a < b);
    }

    private int depthAt(int x, int y) {
        int covering = at(x, y);
        return countBits(covering);
    }

    // Only pairs with box k can have changed, since no other box has.
    private int changesSince(int before, int k) {
        int now = partners(k);
        return countBits(before ^ now);
    }

    private int countBits(int mask) {
        int count = 0;
        for (int k = 0; k < BOXES; k++) {
            count += mask >> k & 1;
        }
        return count;
    }
}
