import java.util.ArrayList;
import java.util.HashSet;
import java.util.List;
import java.util.Set;

/**
 * The document read in another way than SweepPairs reads it: every point of the field
 * knows the boxes that have it, and the answers are read off the points.
 */
final class GridModel {
    private static final int SIDE = 100;
    private final int[] field = new int[SIDE * SIDE];

    int put(int k, int xs, int ys) {
        if (k < 0 || k > 9 || xs < 0 || xs > 9999 || ys < 0 || ys > 9999) {
            return -1;
        }
        if (xs % 100 > xs / 100 || ys % 100 > ys / 100) {
            return -1;
        }
        return paint(k, xs % 100, xs / 100, ys % 100, ys / 100);
    }

    int move(int k, long dx, long dy) {
        if (!isThere(k)) {
            return -1;
        }
        long x0 = edge(k, 0) + dx;
        long x1 = edge(k, 1) + dx;
        long y0 = edge(k, 2) + dy;
        long y1 = edge(k, 3) + dy;
        if (x0 < 0 || x1 > 99 || y0 < 0 || y1 > 99) {
            return -1;
        }
        return paint(k, (int) x0, (int) x1, (int) y0, (int) y1);
    }

    int remove(int k) {
        if (!isThere(k)) {
            return -1;
        }
        int count = Integer.bitCount(partners(k));
        wipe(k);
        return count;
    }

    int boxes() {
        int all = 0;
        for (int here : field) {
            all |= here;
        }
        return all;
    }

    int edge(int k, int what) {
        if (!isThere(k) || what < 0 || what > 3) {
            return -1;
        }
        int best = -1;
        for (int place = 0; place < field.length; place++) {
            if ((field[place] >> k & 1) == 1) {
                int value = what < 2 ? place % SIDE : place / SIDE;
                boolean better = what % 2 == 0 ? value < best : value > best;
                best = best < 0 || better ? value : best;
            }
        }
        return best;
    }

    int partners(int k) {
        if (k < 0 || k > 9) {
            return 0;
        }
        int found = 0;
        for (int here : field) {
            if ((here >> k & 1) == 1) {
                found |= here;
            }
        }
        return found & ~(1 << k);
    }

    int pairs() {
        return pairList().size();
    }

    int pair(int n) {
        List<Integer> list = pairList();
        return n >= 0 && n < list.size() ? list.get(n) : -1;
    }

    int cluster(int k) {
        return isThere(k) ? allClusters()[k] : 0;
    }

    int clusters() {
        Set<Integer> different = new HashSet<>();
        for (int cluster : allClusters()) {
            if (cluster != 0) {
                different.add(cluster);
            }
        }
        return different.size();
    }

    int at(int x, int y) {
        return x < 0 || x >= SIDE || y < 0 || y >= SIDE ? 0 : field[SIDE * y + x];
    }

    int deepest() {
        int most = 0;
        for (int here : field) {
            most = Math.max(most, Integer.bitCount(here));
        }
        return most;
    }

    int rank(int k, int axis) {
        if (!isThere(k) || axis < 0 || axis > 1) {
            return -1;
        }
        List<Integer> order = new ArrayList<>();
        for (int j = 0; j < 10; j++) {
            if (isThere(j)) {
                order.add(10 * edge(j, 2 * axis) + j);
            }
        }
        order.sort(null);
        return order.indexOf(10 * edge(k, 2 * axis) + k);
    }

    boolean within(int a, int b) {
        if (a == b || !isThere(a) || !isThere(b)) {
            return false;
        }
        for (int here : field) {
            if ((here >> a & 1) == 1 && (here >> b & 1) == 0) {
                return false;
            }
        }
        return true;
    }

    private boolean isThere(int k) {
        return k >= 0 && k <= 9 && (boxes() >> k & 1) == 1;
    }

    private void wipe(int k) {
        for (int place = 0; place < field.length; place++) {
            field[place] &= ~(1 << k);
        }
    }

    private int paint(int k, int x0, int x1, int y0, int y1) {
        Set<Integer> before = new HashSet<>(pairList());
        wipe(k);
        for (int y = y0; y <= y1; y++) {
            for (int x = x0; x <= x1; x++) {
                field[SIDE * y + x] |= 1 << k;
            }
        }
        Set<Integer> after = new HashSet<>(pairList());
        Set<Integer> kept = new HashSet<>(before);
        kept.retainAll(after);
        return before.size() + after.size() - 2 * kept.size();
    }

    private List<Integer> pairList() {
        List<Integer> list = new ArrayList<>();
        for (int a = 0; a < 10; a++) {
            int partners = partners(a);
            for (int b = a + 1; b < 10; b++) {
                if ((partners >> b & 1) == 1) {
                    list.add(10 * a + b);
                }
            }
        }
        return list;
    }

    // Warshall's closure: in round `via`, ways that pass through box `via` are added.
    private int[] allClusters() {
        int[] reach = new int[10];
        for (int k = 0; k < 10; k++) {
            reach[k] = isThere(k) ? partners(k) | 1 << k : 0;
        }
        for (int via = 0; via < 10; via++) {
            for (int k = 0; k < 10; k++) {
                if ((reach[k] >> via & 1) == 1) {
                    reach[k] |= reach[via];
                }
            }
        }
        return reach;
    }
}
