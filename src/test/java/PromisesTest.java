/** Each promise of the document by hand: ordinary inputs, the edges it names, wrong inputs. */
public final class PromisesTest {
    private static final int BAD = -1;
    private static final int LEAST = Integer.MIN_VALUE;
    private static final int GREATEST = Integer.MAX_VALUE;
    private static final int[] NO_BOX = {LEAST, -10, -1, 10, 31, 32, 33, 64, GREATEST};

    private static final Checks checks = new Checks("PromisesTest");

    public static void main(String[] args) {
        promise1NewObject();
        promise2Put();
        promise2PutWrong();
        promise2PutCountsBothWays();
        promise3Move();
        promise3MoveWrong();
        promise4Remove();
        promise5Boxes();
        promise6Edge();
        promise7Partners();
        promise7TouchingAndMissing();
        promise8Pairs();
        promise9Pair();
        promise10Cluster();
        promise10LongChains();
        promise11Clusters();
        promise12At();
        promise13Deepest();
        promise13PairwiseIsNotEnough();
        promise14Rank();
        promise15Within();
        objectsAreApart();
        checks.end();
    }

    private static void due(String call, int got, int want) {
        checks.due(call, got, want);
    }

    private static void due(String call, boolean got, boolean want) {
        checks.due(call, got, want);
    }

    private static int span(int low, int high) {
        return low + 100 * high;
    }

    private static int put(SweepPairs s, int k, int x0, int x1, int y0, int y1) {
        return s.put(k, span(x0, x1), span(y0, y1));
    }

    private static void edgesDue(String when, SweepPairs s, int k, int x0, int x1, int y0, int y1) {
        due(when + ": edge(" + k + ", 0)", s.edge(k, 0), x0);
        due(when + ": edge(" + k + ", 1)", s.edge(k, 1), x1);
        due(when + ": edge(" + k + ", 2)", s.edge(k, 2), y0);
        due(when + ": edge(" + k + ", 3)", s.edge(k, 3), y1);
    }

    private static void promise1NewObject() {
        SweepPairs s = new SweepPairs();
        due("new: BAD", SweepPairs.BAD, BAD);
        due("new: boxes()", s.boxes(), 0);
        due("new: pairs()", s.pairs(), 0);
        due("new: clusters()", s.clusters(), 0);
        due("new: deepest()", s.deepest(), 0);
        due("new: pair(0)", s.pair(0), BAD);
        due("new: at(0, 0)", s.at(0, 0), 0);
        for (int k = 0; k < 10; k++) {
            due("new: edge(" + k + ", 0)", s.edge(k, 0), BAD);
            due("new: partners(" + k + ")", s.partners(k), 0);
            due("new: cluster(" + k + ")", s.cluster(k), 0);
            due("new: rank(" + k + ", 0)", s.rank(k, 0), BAD);
            due("new: move(" + k + ", 0, 0)", s.move(k, 0, 0), BAD);
            due("new: remove(" + k + ")", s.remove(k), BAD);
        }
    }

    private static void promise2Put() {
        SweepPairs s = new SweepPairs();
        due("put: first", s.put(3, 4512, 9807), 0);
        edgesDue("put", s, 3, 12, 45, 7, 98);
        due("put: boxes()", s.boxes(), 8);
        due("put: again the same", s.put(3, 4512, 9807), 0);
        due("put: elsewhere", s.put(3, 9999, 0), 0);
        edgesDue("put elsewhere", s, 3, 99, 99, 0, 0);
        due("put: box 0, all there is", s.put(0, 9900, 9900), 1);
        edgesDue("put all there is", s, 0, 0, 99, 0, 99);
        due("put: box 9, one point", s.put(9, 0, 9999), 1);
        edgesDue("put one point", s, 9, 0, 0, 99, 99);
        due("put: boxes() of three", s.boxes(), 1 + 8 + 512);
    }

    private static void promise2PutWrong() {
        SweepPairs s = new SweepPairs();
        put(s, 4, 10, 20, 30, 40);
        put(s, 5, 15, 25, 35, 45);
        for (int k : NO_BOX) {
            due("put wrong: put(" + k + ", 0, 0)", s.put(k, 0, 0), BAD);
        }
        int[] noSpan = {LEAST, -101, -100, -1, 10000, 10001, 19900, GREATEST, 1, 99, 9899, 5051};
        for (int code : noSpan) {
            due("put wrong: put(4, " + code + ", 0)", s.put(4, code, 0), BAD);
            due("put wrong: put(4, 0, " + code + ")", s.put(4, 0, code), BAD);
            due("put wrong: put(6, " + code + ", " + code + ")", s.put(6, code, code), BAD);
        }
        due("put wrong: boxes()", s.boxes(), 16 + 32);
        due("put wrong: pairs()", s.pairs(), 1);
        edgesDue("put wrong", s, 4, 10, 20, 30, 40);
        edgesDue("put wrong", s, 5, 15, 25, 35, 45);
    }

    private static void promise2PutCountsBothWays() {
        SweepPairs s = new SweepPairs();
        put(s, 0, 0, 9, 0, 9);
        put(s, 1, 5, 14, 0, 9);
        put(s, 2, 50, 59, 0, 9);
        due("put both ways: meets 0 and 1", put(s, 3, 7, 8, 5, 6), 2);
        due("put both ways: leaves both, meets 2", put(s, 3, 55, 56, 5, 6), 3);
        due("put both ways: keeps 2, meets 1", put(s, 3, 14, 56, 5, 6), 1);
        due("put both ways: leaves 2, keeps 1, meets 0", put(s, 3, 9, 14, 5, 6), 2);
        due("put both ways: leaves all", put(s, 3, 80, 81, 80, 81), 2);
        due("put both ways: pairs()", s.pairs(), 1);
    }

    private static void promise3Move() {
        SweepPairs s = new SweepPairs();
        put(s, 0, 10, 20, 30, 40);
        put(s, 1, 21, 30, 41, 50);
        put(s, 2, 0, 9, 30, 40);
        due("move: along x alone", s.move(0, 1, 0), 0);
        edgesDue("move", s, 0, 11, 21, 30, 40);
        due("move: along y, meets 1", s.move(0, 0, 1), 1);
        edgesDue("move", s, 0, 11, 21, 31, 41);
        due("move: nowhere", s.move(0, 0, 0), 0);
        due("move: leaves 1, meets 2", s.move(0, -2, -1), 2);
        edgesDue("move", s, 0, 9, 19, 30, 40);
        due("move: partners(0)", s.partners(0), 4);
        due("move: to the highs' end", s.move(0, 80, 59), 1);
        edgesDue("move", s, 0, 89, 99, 89, 99);
        due("move: to the lows' end", s.move(0, -89, -89), 0);
        edgesDue("move", s, 0, 0, 10, 0, 10);
        edgesDue("move leaves others", s, 1, 21, 30, 41, 50);
        edgesDue("move leaves others", s, 2, 0, 9, 30, 40);
    }

    private static void promise3MoveWrong() {
        SweepPairs s = new SweepPairs();
        put(s, 7, 10, 20, 30, 40);
        put(s, 8, 0, 99, 0, 99);
        for (int k : NO_BOX) {
            due("move wrong: move(" + k + ", 0, 0)", s.move(k, 0, 0), BAD);
        }
        due("move wrong: not there", s.move(6, 0, 0), BAD);
        int[] tooFarX = {-11, 80, -100, 100, LEAST, LEAST + 5, GREATEST, GREATEST - 15};
        int[] tooFarY = {-31, 60, -100, 100, LEAST, LEAST + 35, GREATEST, GREATEST - 35};
        for (int by : tooFarX) {
            due("move wrong: move(7, " + by + ", 1)", s.move(7, by, 1), BAD);
        }
        for (int by : tooFarY) {
            due("move wrong: move(7, 1, " + by + ")", s.move(7, 1, by), BAD);
        }
        due("move wrong: no room", s.move(8, 0, 1), BAD);
        due("move wrong: no room", s.move(8, -1, 0), BAD);
        due("move wrong: no way needed", s.move(8, 0, 0), 0);
        edgesDue("move wrong", s, 7, 10, 20, 30, 40);
        edgesDue("move wrong", s, 8, 0, 99, 0, 99);
        due("move wrong: boxes()", s.boxes(), 128 + 256);
        s.remove(7);
        due("move wrong: removed", s.move(7, 0, 0), BAD);
        due("move wrong: still removed", s.boxes(), 256);
    }

    private static void promise4Remove() {
        SweepPairs s = new SweepPairs();
        put(s, 0, 0, 50, 0, 50);
        put(s, 1, 50, 60, 50, 60);
        put(s, 2, 20, 30, 20, 30);
        put(s, 9, 90, 99, 90, 99);
        due("remove: of two partners", s.remove(0), 2);
        due("remove: boxes()", s.boxes(), 2 + 4 + 512);
        due("remove: twice", s.remove(0), BAD);
        due("remove: its partner has none now", s.remove(1), 0);
        due("remove: alone", s.remove(9), 0);
        for (int k : NO_BOX) {
            due("remove: remove(" + k + ")", s.remove(k), BAD);
        }
        due("remove: boxes() at the end", s.boxes(), 4);
        due("remove: put back meets only who is there", put(s, 0, 0, 50, 0, 50), 1);
        for (int k = 0; k < 10; k++) {
            put(s, k, 5, 6, 5, 6);
        }
        for (int k = 0; k < 10; k++) {
            due("remove: remove(" + k + ") of a heap", s.remove(k), 9 - k);
        }
    }

    private static void promise5Boxes() {
        SweepPairs s = new SweepPairs();
        int want = 0;
        for (int k = 9; k >= 0; k--) {
            put(s, k, k, k, k, k);
            want += 1 << k;
            due("boxes: boxes() after put of " + k, s.boxes(), want);
        }
        s.move(5, 10, 10);
        due("boxes: a move keeps it there", s.boxes(), 1023);
        s.remove(5);
        due("boxes: without 5", s.boxes(), 1023 - 32);
    }

    private static void promise6Edge() {
        SweepPairs s = new SweepPairs();
        put(s, 0, 1, 2, 3, 4);
        put(s, 9, 95, 96, 97, 98);
        edgesDue("edge", s, 0, 1, 2, 3, 4);
        edgesDue("edge", s, 9, 95, 96, 97, 98);
        for (int what : new int[] {LEAST, -1, 4, 5, 8, GREATEST}) {
            due("edge: edge(0, " + what + ")", s.edge(0, what), BAD);
            due("edge: edge(9, " + what + ")", s.edge(9, what), BAD);
        }
        for (int k : NO_BOX) {
            due("edge: edge(" + k + ", 1)", s.edge(k, 1), BAD);
        }
        due("edge: not there", s.edge(1, 0), BAD);
        s.remove(0);
        for (int what = 0; what < 4; what++) {
            due("edge: removed, edge(0, " + what + ")", s.edge(0, what), BAD);
        }
    }

    private static void promise7Partners() {
        SweepPairs s = new SweepPairs();
        put(s, 0, 10, 20, 10, 20);
        put(s, 1, 15, 25, 15, 25);
        put(s, 2, 15, 25, 30, 40);
        put(s, 3, 0, 99, 12, 35);
        put(s, 9, 13, 14, 13, 14);
        due("partners: corner, bar and inner", s.partners(0), 2 + 8 + 512);
        due("partners: corner and bar", s.partners(1), 1 + 8);
        due("partners: bar", s.partners(2), 8);
        due("partners: all", s.partners(3), 1 + 2 + 4 + 512);
        due("partners: the inner one", s.partners(9), 1 + 8);
    }

    private static void promise7TouchingAndMissing() {
        int[][] around = {{-1, -1}, {-1, 0}, {-1, 1}, {0, -1}, {0, 1}, {1, -1}, {1, 0}, {1, 1}};
        for (int[] to : around) {
            SweepPairs s = new SweepPairs();
            put(s, 4, 40, 50, 40, 50);
            put(s, 5, 40, 50, 40, 50);
            int dx = 10 * to[0];
            int dy = 10 * to[1];
            String way = "partners: " + to[0] + ", " + to[1] + ": ";
            due(way + "touching", s.move(5, dx, dy), 0);
            due(way + "touching, partners(4)", s.partners(4), 32);
            due(way + "one further", s.move(5, to[0], to[1]), 1);
            due(way + "one further, partners(5)", s.partners(5), 0);
        }
        SweepPairs s = new SweepPairs();
        put(s, 0, 0, 0, 0, 0);
        put(s, 1, 0, 0, 0, 0);
        due("partners: one point", s.partners(0), 2);
        due("partners: not there", s.partners(2), 0);
        for (int k : NO_BOX) {
            due("partners: partners(" + k + ")", s.partners(k), 0);
        }
        s.remove(1);
        due("partners: gone", s.partners(0), 0);
        due("partners: of the gone", s.partners(1), 0);
    }

    private static void promise8Pairs() {
        SweepPairs s = new SweepPairs();
        int want = 0;
        for (int k = 0; k < 10; k++) {
            due("pairs: put of " + k, put(s, k, 40 - k, 40 + k, 40, 41), k);
            want += k;
            due("pairs: pairs() with " + (k + 1), s.pairs(), want);
        }
        s.move(0, 0, 2);
        due("pairs: one moved off", s.pairs(), 36);
        s.remove(9);
        due("pairs: one removed", s.pairs(), 28);
    }

    private static void promise9Pair() {
        SweepPairs s = new SweepPairs();
        put(s, 0, 0, 10, 0, 10);
        put(s, 9, 5, 60, 5, 60);
        put(s, 3, 10, 12, 10, 12);
        put(s, 4, 12, 50, 12, 50);
        put(s, 8, 50, 51, 50, 51);
        int[] want = {3, 9, 34, 39, 48, 49, 89};
        for (int n = 0; n < want.length; n++) {
            due("pair: pair(" + n + ")", s.pair(n), want[n]);
        }
        for (int n : new int[] {LEAST, -7, -2, -1, 7, 8, 45, 100, GREATEST}) {
            due("pair: pair(" + n + ")", s.pair(n), BAD);
        }
        for (int k = 0; k < 10; k++) {
            put(s, k, 1, 1, 1, 1);
        }
        int n = 0;
        for (int a = 0; a < 10; a++) {
            for (int b = a + 1; b < 10; b++) {
                due("pair: all, pair(" + n + ")", s.pair(n), 10 * a + b);
                n++;
            }
        }
        due("pair: pair(45)", s.pair(45), BAD);
    }

    private static void promise10Cluster() {
        SweepPairs s = new SweepPairs();
        put(s, 1, 0, 10, 0, 10);
        put(s, 2, 10, 20, 10, 20);
        put(s, 3, 20, 30, 20, 30);
        put(s, 5, 50, 60, 50, 60);
        put(s, 6, 60, 70, 60, 70);
        put(s, 9, 99, 99, 0, 0);
        for (int k = 1; k <= 3; k++) {
            due("cluster: cluster(" + k + ")", s.cluster(k), 2 + 4 + 8);
        }
        due("cluster: cluster(5)", s.cluster(5), 32 + 64);
        due("cluster: cluster(6)", s.cluster(6), 32 + 64);
        due("cluster: alone", s.cluster(9), 512);
        due("cluster: not there", s.cluster(0), 0);
        for (int k : NO_BOX) {
            due("cluster: cluster(" + k + ")", s.cluster(k), 0);
        }
        s.remove(2);
        due("cluster: cut, cluster(1)", s.cluster(1), 2);
        due("cluster: cut, cluster(3)", s.cluster(3), 8);
        due("cluster: of the gone", s.cluster(2), 0);
    }

    // The chain's order decides how many rounds a search that goes by box number needs.
    private static void promise10LongChains() {
        int[][] orders = {
            {0, 1, 2, 3, 4, 5, 6, 7, 8, 9},
            {9, 8, 7, 6, 5, 4, 3, 2, 1, 0},
            {5, 0, 9, 1, 8, 2, 7, 3, 6, 4},
            {0, 9, 1, 8, 2, 7, 3, 6, 4, 5},
        };
        for (int[] order : orders) {
            SweepPairs s = new SweepPairs();
            for (int i = 0; i < 10; i++) {
                put(s, order[i], 5 * i, 5 * i + 5, 7, 7);
            }
            due("cluster: chain's pairs()", s.pairs(), 9);
            due("cluster: chain's clusters()", s.clusters(), 1);
            for (int k = 0; k < 10; k++) {
                due("cluster: in a chain, cluster(" + k + ")", s.cluster(k), 1023);
            }
            s.remove(order[4]);
            int left = 0;
            for (int i = 0; i < 4; i++) {
                left += 1 << order[i];
            }
            due("cluster: cut chain, left", s.cluster(order[0]), left);
            due("cluster: cut chain, right", s.cluster(order[9]), 1023 - left - (1 << order[4]));
            due("cluster: cut chain's clusters()", s.clusters(), 2);
        }
    }

    private static void promise11Clusters() {
        SweepPairs s = new SweepPairs();
        for (int k = 0; k < 10; k++) {
            put(s, k, 10 * k, 10 * k + 8, 0, 8);
            due("clusters: apart, " + (k + 1), s.clusters(), k + 1);
        }
        s.move(3, 1, 0);
        due("clusters: near is not joined", s.clusters(), 10);
        s.move(3, 1, 0);
        due("clusters: 3 and 4 joined", s.clusters(), 9);
        put(s, 9, 0, 99, 8, 8);
        due("clusters: one bar joins all", s.clusters(), 1);
        s.move(9, 0, 1);
        due("clusters: the bar off", s.clusters(), 9);
        s.remove(9);
        due("clusters: the bar away", s.clusters(), 8);
    }

    private static void promise12At() {
        SweepPairs s = new SweepPairs();
        put(s, 0, 10, 20, 30, 40);
        put(s, 6, 20, 50, 40, 60);
        due("at: low, low", s.at(10, 30), 1);
        due("at: low, high", s.at(10, 40), 1);
        due("at: high, low", s.at(20, 30), 1);
        due("at: both", s.at(20, 40), 1 + 64);
        due("at: inside", s.at(15, 35), 1);
        due("at: before along x", s.at(9, 35), 0);
        due("at: after along x", s.at(21, 35), 0);
        due("at: before along y", s.at(15, 29), 0);
        due("at: after along y", s.at(15, 41), 0);
        due("at: the other", s.at(50, 60), 64);
        put(s, 9, 0, 99, 0, 99);
        due("at: corner", s.at(0, 0), 512);
        due("at: other corner", s.at(99, 99), 512);
        for (int off : new int[] {LEAST, -1, 100, 120, GREATEST}) {
            due("at: at(" + off + ", 35)", s.at(off, 35), 0);
            due("at: at(15, " + off + ")", s.at(15, off), 0);
        }
        s.remove(0);
        due("at: without the gone", s.at(20, 40), 64 + 512);
    }

    private static void promise13Deepest() {
        SweepPairs s = new SweepPairs();
        put(s, 0, 0, 9, 0, 9);
        due("deepest: one", s.deepest(), 1);
        put(s, 1, 20, 29, 20, 29);
        due("deepest: two apart", s.deepest(), 1);
        put(s, 2, 9, 20, 9, 20);
        due("deepest: touching two", s.deepest(), 2);
        // The deepest point's x is the low of one box and its y the low of another.
        SweepPairs cross = new SweepPairs();
        put(cross, 8, 30, 40, 0, 99);
        put(cross, 9, 0, 99, 30, 40);
        due("deepest: a cross", cross.deepest(), 2);
        put(cross, 7, 40, 99, 40, 99);
        due("deepest: a cross and a corner", cross.deepest(), 3);
        cross.move(7, 0, 0);
        cross.remove(8);
        due("deepest: after a removal", cross.deepest(), 2);
        SweepPairs heap = new SweepPairs();
        for (int k = 0; k < 10; k++) {
            put(heap, k, k, 99, 0, 99 - k);
            due("deepest: a heap of " + (k + 1), heap.deepest(), k + 1);
        }
        for (int k = 0; k < 10; k++) {
            heap.remove(k);
            due("deepest: the heap without " + (k + 1), heap.deepest(), 9 - k);
        }
    }

    private static void promise13PairwiseIsNotEnough() {
        SweepPairs s = new SweepPairs();
        // A bar that overlaps four posts, each apart from the others: five in one
        // cluster, four partners, and still no point in three of them.
        put(s, 0, 0, 99, 50, 55);
        for (int k = 1; k < 5; k++) {
            put(s, k, 20 * k, 20 * k + 5, 0, 99);
        }
        due("deepest: bar and posts", s.deepest(), 2);
        due("deepest: bar and posts, pairs()", s.pairs(), 4);
    }

    private static void promise14Rank() {
        SweepPairs s = new SweepPairs();
        put(s, 1, 50, 60, 7, 9);
        put(s, 4, 20, 99, 7, 8);
        put(s, 5, 50, 50, 0, 99);
        put(s, 9, 0, 3, 7, 7);
        int[][] want = {{1, 2, 1}, {4, 1, 2}, {5, 3, 0}, {9, 0, 3}};
        for (int[] row : want) {
            due("rank: rank(" + row[0] + ", 0)", s.rank(row[0], 0), row[1]);
            due("rank: rank(" + row[0] + ", 1)", s.rank(row[0], 1), row[2]);
        }
        for (int axis : new int[] {LEAST, -1, 2, 3, GREATEST}) {
            due("rank: rank(1, " + axis + ")", s.rank(1, axis), BAD);
        }
        for (int k : NO_BOX) {
            due("rank: rank(" + k + ", 0)", s.rank(k, 0), BAD);
            due("rank: rank(" + k + ", 1)", s.rank(k, 1), BAD);
        }
        due("rank: not there", s.rank(0, 0), BAD);
        s.remove(4);
        due("rank: of the gone", s.rank(4, 0), BAD);
        due("rank: without the gone", s.rank(5, 0), 2);
        due("rank: without the gone", s.rank(9, 1), 2);
        put(s, 0, 0, 0, 7, 7);
        due("rank: box 0 first among equals", s.rank(0, 1), 1);
        due("rank: after box 0 along x", s.rank(9, 0), 1);
        due("rank: after box 0 along y", s.rank(9, 1), 3);
    }

    private static void promise15Within() {
        SweepPairs s = new SweepPairs();
        put(s, 0, 10, 20, 30, 40);
        put(s, 1, 10, 20, 30, 40);
        due("within: equal", s.within(0, 1), true);
        due("within: equal, the other way", s.within(1, 0), true);
        due("within: itself", s.within(0, 0), false);
        int[][] inner = {{11, 20, 30, 40}, {10, 19, 30, 40}, {10, 20, 31, 40}, {10, 20, 30, 39}, {15, 15, 35, 35}};
        for (int[] e : inner) {
            put(s, 2, e[0], e[1], e[2], e[3]);
            due("within: inner one", s.within(2, 0), true);
            due("within: outer one", s.within(0, 2), false);
        }
        int[][] beyond = {{9, 19, 31, 39}, {11, 21, 31, 39}, {11, 19, 29, 39}, {11, 19, 31, 41}, {50, 51, 31, 39}};
        for (int[] e : beyond) {
            put(s, 2, e[0], e[1], e[2], e[3]);
            due("within: beyond one side", s.within(2, 0), false);
            due("within: beyond one side, the other way", s.within(0, 2), false);
        }
        for (int k : NO_BOX) {
            due("within: within(" + k + ", 0)", s.within(k, 0), false);
            due("within: within(0, " + k + ")", s.within(0, k), false);
            due("within: within(" + k + ", " + k + ")", s.within(k, k), false);
        }
        s.remove(1);
        due("within: the gone", s.within(1, 0), false);
        due("within: in the gone", s.within(0, 1), false);
        due("within: never there", s.within(7, 8), false);
    }

    private static void objectsAreApart() {
        SweepPairs one = new SweepPairs();
        SweepPairs two = new SweepPairs();
        put(one, 0, 0, 5, 0, 5);
        put(two, 1, 0, 5, 0, 5);
        due("apart: boxes() of one", one.boxes(), 1);
        due("apart: boxes() of two", two.boxes(), 2);
        due("apart: pairs()", one.pairs(), 0);
    }
}
