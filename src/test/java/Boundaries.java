import java.util.Arrays;

/**
 * What the boundary tests share: each of their methods stands for one sentence of the
 * document, and a wrong answer is printed with the sentence that it breaks.
 */
final class Boundaries {
    static final int BAD = -1;
    static final int LEAST = Integer.MIN_VALUE;
    static final int GREATEST = Integer.MAX_VALUE;
    static final int ALL = 1023;

    // -1 and 10 are the nearest; 32, 41 and -32 are taken for 0, 9 and 0 by a shift
    // whose distance was not looked at first.
    static final int[] NO_BOX = {-1, 10, 11, 32, 41, -32, -23, LEAST, LEAST + 9, GREATEST};

    interface Call {
        int on(SweepPairs s);
    }

    private final Checks checks;
    private String sentence = "";

    Boundaries(String test) {
        checks = new Checks(test);
    }

    void sentence(String words, Runnable test) {
        sentence = words;
        int before = checks.made();
        // No call may throw; if one does, the sentences after this one are still tried.
        String thrown = "nothing";
        try {
            test.run();
        } catch (RuntimeException e) {
            thrown = e.toString();
        }
        due("throws nothing (threw: " + thrown + ")", thrown.equals("nothing"), true);
        due("has checks", checks.made() > before + 1, true);
    }

    void due(String call, int got, int want) {
        checks.due("[" + sentence + "] " + call, got, want);
    }

    void due(String call, boolean got, boolean want) {
        checks.due("[" + sentence + "] " + call, got, want);
    }

    /** The call answers BAD and leaves everything that can be asked for as it was. */
    void refused(String name, Call call) {
        SweepPairs s = scene();
        int[] before = allAnswers(s);
        due(name, call.on(s), BAD);
        due(name + " changed nothing", Arrays.equals(allAnswers(s), before), true);
    }

    void edgesDue(String when, SweepPairs s, int k, int x0, int x1, int y0, int y1) {
        due(when + ": edge(" + k + ", 0)", s.edge(k, 0), x0);
        due(when + ": edge(" + k + ", 1)", s.edge(k, 1), x1);
        due(when + ": edge(" + k + ", 2)", s.edge(k, 2), y0);
        due(when + ": edge(" + k + ", 3)", s.edge(k, 3), y1);
    }

    void end() {
        checks.end();
    }

    static int put(SweepPairs s, int k, int x0, int x1, int y0, int y1) {
        return s.put(k, x0 + 100 * x1, y0 + 100 * y1);
    }

    /**
     * Boxes 0, 4 and 9 overlap one another, box 6 overlaps 9 alone, box 7 has been
     * taken away again, and the rest never were there.
     */
    static SweepPairs scene() {
        SweepPairs s = new SweepPairs();
        put(s, 0, 10, 20, 30, 40);
        put(s, 4, 15, 25, 35, 45);
        put(s, 7, 0, 99, 0, 99);
        put(s, 9, 20, 50, 40, 70);
        put(s, 6, 50, 60, 70, 80);
        s.remove(7);
        return s;
    }

    /** Ten boxes that all have the point (50, 50). */
    static SweepPairs heap() {
        SweepPairs s = new SweepPairs();
        for (int k = 0; k < 10; k++) {
            put(s, k, 50 - k, 50 + k, 50 - k, 50 + k);
        }
        return s;
    }

    /** Ten boxes, none of which overlaps another. */
    static SweepPairs row() {
        SweepPairs s = new SweepPairs();
        for (int k = 0; k < 10; k++) {
            put(s, k, 10 * k, 10 * k + 9, 10 * k, 10 * k + 9);
        }
        return s;
    }

    private static int[] allAnswers(SweepPairs s) {
        int[] answers = new int[100];
        int used = 0;
        answers[used++] = s.boxes();
        answers[used++] = s.pairs();
        answers[used++] = s.clusters();
        answers[used++] = s.deepest();
        for (int k = 0; k < 10; k++) {
            for (int what = 0; what < 4; what++) {
                answers[used++] = s.edge(k, what);
            }
            answers[used++] = s.partners(k);
            answers[used++] = s.cluster(k);
            answers[used++] = s.rank(k, 0);
            answers[used++] = s.rank(k, 1);
            answers[used++] = s.pair(k);
        }
        return answers;
    }
}
