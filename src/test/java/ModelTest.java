/** Long runs of mixed calls, each answer held against that of GridModel. */
public final class ModelTest {
    private static final int RUNS = 60;
    private static final int CALLS = 512;
    private static final int ENOUGH_WRONG = 20;
    private static final int[] ODD = {Integer.MIN_VALUE, -101, -100, -1, 10, 32, 99, 100, 9999, 10000, Integer.MAX_VALUE};

    private static final Checks checks = new Checks("ModelTest");

    // A fixed rule makes the numbers, so every run of this test makes the same calls.
    private static long seed;
    private static SweepPairs program;
    private static GridModel model;

    public static void main(String[] args) {
        for (int run = 0; run < RUNS && checks.wrong() < ENOUGH_WRONG; run++) {
            start(run);
            for (int call = 0; call < CALLS && checks.wrong() < ENOUGH_WRONG; call++) {
                oneCall("run " + run + ", call " + call + ": ", run);
            }
        }
        for (int run = RUNS; run < 2 * RUNS && checks.wrong() < ENOUGH_WRONG; run++) {
            start(run);
            int changes = 1 + below(30);
            for (int change = 0; change < changes; change++) {
                oneChange("run " + run + ", change " + change + ": ", run);
            }
            lookAtAll("run " + run + ", at its end: ");
        }
        checks.end();
    }

    private static void start(int run) {
        seed = 7919L * run + 1;
        program = new SweepPairs();
        model = new GridModel();
    }

    private static int below(int bound) {
        seed = seed * 6364136223846793005L + 1442695040888963407L;
        return (int) ((seed >>> 33) % bound);
    }

    private static int box() {
        return below(40) == 0 ? ODD[below(ODD.length)] : below(10);
    }

    private static int place(int run) {
        // Every other run has its edges on few places, so that they often meet.
        return run % 2 == 0 ? below(100) : 9 * below(12);
    }

    private static int span(int run) {
        if (below(40) == 0) {
            return ODD[below(ODD.length)];
        }
        int low = place(run);
        int length = run % 3 == 0 ? below(100) : below(30);
        int high = below(40) == 0 ? below(100) : Math.min(99, low + length);
        return low + 100 * high;
    }

    private static int way(int run) {
        if (below(40) == 0) {
            return ODD[below(ODD.length)];
        }
        return run % 3 == 0 ? below(5) - 2 : below(41) - 20;
    }

    private static void oneChange(String when, int run) {
        int kind = below(10);
        int k = box();
        if (kind < 5) {
            put(when, k, span(run), span(run));
        } else if (kind < 9) {
            move(when, k, way(run), way(run));
        } else {
            checks.due(when + "remove(" + k + ")", program.remove(k), model.remove(k));
        }
    }

    private static void put(String when, int k, int xs, int ys) {
        checks.due(when + "put(" + k + ", " + xs + ", " + ys + ")", program.put(k, xs, ys), model.put(k, xs, ys));
    }

    private static void move(String when, int k, int dx, int dy) {
        checks.due(when + "move(" + k + ", " + dx + ", " + dy + ")", program.move(k, dx, dy), model.move(k, dx, dy));
    }

    private static void oneCall(String when, int run) {
        switch (below(20)) {
            case 0 -> boxes(when);
            case 1 -> edge(when, box(), below(6) - 1);
            case 2 -> partners(when, box());
            case 3 -> pairs(when);
            case 4 -> pair(when, below(47) - 1);
            case 5 -> cluster(when, box());
            case 6 -> clusters(when);
            case 7 -> at(when, place(run), place(run));
            case 8 -> deepest(when);
            case 9 -> rank(when, box(), below(4) - 1);
            case 10 -> within(when, box(), box());
            default -> oneChange(when, run);
        }
    }

    private static void lookAtAll(String when) {
        boxes(when);
        pairs(when);
        clusters(when);
        deepest(when);
        for (int n = -1; n <= 45; n++) {
            pair(when, n);
        }
        for (int k = -1; k <= 10; k++) {
            partners(when, k);
            cluster(when, k);
            at(when, 10 * k, 9 * k);
            for (int what = -1; what <= 4; what++) {
                edge(when, k, what);
            }
            for (int axis = -1; axis <= 2; axis++) {
                rank(when, k, axis);
            }
            for (int b = -1; b <= 10; b++) {
                within(when, k, b);
            }
        }
    }

    private static void boxes(String when) {
        checks.due(when + "boxes()", program.boxes(), model.boxes());
    }

    private static void edge(String when, int k, int what) {
        checks.due(when + "edge(" + k + ", " + what + ")", program.edge(k, what), model.edge(k, what));
    }

    private static void partners(String when, int k) {
        checks.due(when + "partners(" + k + ")", program.partners(k), model.partners(k));
    }

    private static void pairs(String when) {
        checks.due(when + "pairs()", program.pairs(), model.pairs());
    }

    private static void pair(String when, int n) {
        checks.due(when + "pair(" + n + ")", program.pair(n), model.pair(n));
    }

    private static void cluster(String when, int k) {
        checks.due(when + "cluster(" + k + ")", program.cluster(k), model.cluster(k));
    }

    private static void clusters(String when) {
        checks.due(when + "clusters()", program.clusters(), model.clusters());
    }

    private static void at(String when, int x, int y) {
        checks.due(when + "at(" + x + ", " + y + ")", program.at(x, y), model.at(x, y));
    }

    private static void deepest(String when) {
        checks.due(when + "deepest()", program.deepest(), model.deepest());
    }

    private static void rank(String when, int k, int axis) {
        checks.due(when + "rank(" + k + ", " + axis + ")", program.rank(k, axis), model.rank(k, axis));
    }

    private static void within(String when, int a, int b) {
        checks.due(when + "within(" + a + ", " + b + ")", program.within(a, b), model.within(a, b));
    }
}
