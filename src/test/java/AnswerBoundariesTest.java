/** A test for each sentence that names a boundary case: promises 5 to 15. */
public final class AnswerBoundariesTest {
    private static final int BAD = Boundaries.BAD;
    private static final int LEAST = Boundaries.LEAST;
    private static final int GREATEST = Boundaries.GREATEST;
    private static final int ALL = Boundaries.ALL;

    private static final Boundaries check = new Boundaries("AnswerBoundariesTest");

    public static void main(String[] args) {
        check.sentence("5: the boxes that are there", AnswerBoundariesTest::boxesNoneAndAll);
        check.sentence("6: low 0, high 1 along x, low 2, high 3 along y", AnswerBoundariesTest::edgeEach);
        check.sentence("6: BAD when it is not there", AnswerBoundariesTest::edgeNotThere);
        check.sentence("6: BAD when what is not 0 .. 3", AnswerBoundariesTest::edgeWrongWhat);
        check.sentence("7: the boxes that overlap box k", AnswerBoundariesTest::partnersNoneAndAll);
        check.sentence("7: 0 when it is not there", AnswerBoundariesTest::partnersNotThere);
        check.sentence("8: the number of pairs that overlap", AnswerBoundariesTest::pairsNoneAndAll);
        check.sentence("9: exactly n others before it", AnswerBoundariesTest::pairFirstAndLast);
        check.sentence("9: a < b, in the order of a, then of b", AnswerBoundariesTest::pairOrder);
        check.sentence("9: BAD when there is none", AnswerBoundariesTest::pairNone);
        check.sentence("10: one can come to from box k", AnswerBoundariesTest::clusterLongestWay);
        check.sentence("10: k among them", AnswerBoundariesTest::clusterAlone);
        check.sentence("10: 0 when it is not there", AnswerBoundariesTest::clusterNotThere);
        check.sentence("11: the number of different clusters", AnswerBoundariesTest::clustersNoneToAll);
        check.sentence("12: the boxes that have the point", AnswerBoundariesTest::atEdges);
        check.sentence("12: no box has a point outside 0 .. 99", AnswerBoundariesTest::atOutside);
        check.sentence("13: the greatest number one point has", AnswerBoundariesTest::deepestNoneToAll);
        check.sentence("13: one point has in common", AnswerBoundariesTest::deepestOnePoint);
        check.sentence("14: low is less than that of box k", AnswerBoundariesTest::rankByLow);
        check.sentence("14: or equal with a lesser box number", AnswerBoundariesTest::rankEqualLows);
        check.sentence("14: only boxes that are there have a low", AnswerBoundariesTest::rankOfThoseThere);
        check.sentence("14: BAD when it is not there", AnswerBoundariesTest::rankNotThere);
        check.sentence("14: BAD when axis is not 0 or 1", AnswerBoundariesTest::rankWrongAxis);
        check.sentence("15: at least b's low, at most b's high", AnswerBoundariesTest::withinEachSide);
        check.sentence("15: a and b there", AnswerBoundariesTest::withinNotThere);
        check.sentence("15: and different", AnswerBoundariesTest::withinItself);
        check.end();
    }

    private static int put(SweepPairs s, int k, int x0, int x1, int y0, int y1) {
        return Boundaries.put(s, k, x0, x1, y0, y1);
    }

    private static void boxesNoneAndAll() {
        check.due("none", new SweepPairs().boxes(), 0);
        SweepPairs s = Boundaries.heap();
        check.due("all", s.boxes(), ALL);
        s.remove(0);
        check.due("all but 0", s.boxes(), ALL - 1);
        s.remove(9);
        check.due("all but 0 and 9", s.boxes(), ALL - 1 - 512);
    }

    private static void edgeEach() {
        SweepPairs s = new SweepPairs();
        for (int k = 0; k < 10; k++) {
            put(s, k, 4 * k, 4 * k + 1, 4 * k + 2, 4 * k + 3);
        }
        for (int k = 0; k < 10; k++) {
            check.edgesDue("each its own", s, k, 4 * k, 4 * k + 1, 4 * k + 2, 4 * k + 3);
        }
        put(s, 0, 0, 99, 0, 99);
        check.edgesDue("the ends", s, 0, 0, 99, 0, 99);
    }

    private static void edgeNotThere() {
        for (int what = 0; what < 4; what++) {
            int w = what;
            check.refused("never there, edge(1, " + w + ")", s -> s.edge(1, w));
            check.refused("taken away, edge(7, " + w + ")", s -> s.edge(7, w));
            for (int k : Boundaries.NO_BOX) {
                check.refused("edge(" + k + ", " + w + ")", s -> s.edge(k, w));
            }
        }
    }

    private static void edgeWrongWhat() {
        for (int what : new int[] {-1, 4, 5, -2, -4, 32, LEAST, LEAST + 1, GREATEST}) {
            check.refused("edge(0, " + what + ")", s -> s.edge(0, what));
            check.refused("edge(4, " + what + ")", s -> s.edge(4, what));
            check.refused("edge(9, " + what + ")", s -> s.edge(9, what));
        }
    }

    private static void partnersNoneAndAll() {
        SweepPairs heap = Boundaries.heap();
        SweepPairs row = Boundaries.row();
        for (int k = 0; k < 10; k++) {
            check.due("all but itself, partners(" + k + ")", heap.partners(k), ALL - (1 << k));
            check.due("none, partners(" + k + ")", row.partners(k), 0);
        }
        SweepPairs s = Boundaries.scene();
        check.due("not its partner's partners", s.partners(6), 512);
        check.due("bits 0, 4 and 6", s.partners(9), 1 + 16 + 64);
    }

    private static void partnersNotThere() {
        SweepPairs s = Boundaries.scene();
        put(s, 8, 0, 99, 0, 99);
        check.due("never there", s.partners(1), 0);
        check.due("taken away", s.partners(7), 0);
        for (int k : Boundaries.NO_BOX) {
            check.due("partners(" + k + ")", s.partners(k), 0);
        }
    }

    private static void pairsNoneAndAll() {
        SweepPairs s = new SweepPairs();
        check.due("no box", s.pairs(), 0);
        put(s, 0, 0, 99, 0, 99);
        check.due("one box", s.pairs(), 0);
        put(s, 9, 0, 99, 0, 99);
        check.due("boxes 0 and 9", s.pairs(), 1);
        check.due("ten boxes, all pairs", Boundaries.heap().pairs(), 45);
        check.due("ten boxes, no pair", Boundaries.row().pairs(), 0);
    }

    private static void pairFirstAndLast() {
        SweepPairs heap = Boundaries.heap();
        check.due("pair(0) of all", heap.pair(0), 1);
        check.due("pair(44), the last of all", heap.pair(44), 89);
        SweepPairs s = new SweepPairs();
        put(s, 0, 5, 6, 5, 6);
        put(s, 9, 6, 7, 6, 7);
        check.due("pair(0), the only one", s.pair(0), 9);
        put(s, 0, 50, 51, 50, 51);
        put(s, 8, 7, 8, 7, 8);
        check.due("pair(0), the only one, of the greatest numbers", s.pair(0), 89);
    }

    private static void pairOrder() {
        SweepPairs heap = Boundaries.heap();
        int n = 0;
        for (int a = 0; a < 9; a++) {
            for (int b = a + 1; b < 10; b++) {
                check.due("pair(" + n + ")", heap.pair(n), 10 * a + b);
                n++;
            }
        }
        // Put in another order, and with (0, 9) before (1, 2): a decides first.
        SweepPairs s = new SweepPairs();
        put(s, 9, 10, 20, 10, 20);
        put(s, 2, 50, 60, 50, 60);
        put(s, 1, 60, 70, 60, 70);
        put(s, 0, 20, 30, 20, 30);
        check.due("a decides first", s.pair(0), 9);
        check.due("whatever b is", s.pair(1), 12);
    }

    private static void pairNone() {
        SweepPairs[] few = {new SweepPairs(), Boundaries.row(), Boundaries.scene(), Boundaries.heap()};
        int[] counts = {0, 0, 4, 45};
        for (int i = 0; i < few.length; i++) {
            SweepPairs s = few[i];
            int count = counts[i];
            check.due("pairs()", s.pairs(), count);
            for (int n : new int[] {-1, -2, count, count + 1, 45, 46, 99, LEAST, GREATEST}) {
                check.due("pair(" + n + ") of " + count, s.pair(n), BAD);
            }
            if (count > 0) {
                check.due("the last is not BAD", s.pair(count - 1) != BAD, true);
            }
        }
    }

    // All orders that wind to and fro: whichever way a search goes by box number, one
    // of them goes against it at each step.
    private static void clusterLongestWay() {
        for (int step : new int[] {1, 3, 7, 9}) {
            for (int first = 0; first < 10; first++) {
                SweepPairs s = new SweepPairs();
                for (int i = 0; i < 10; i++) {
                    put(s, (first + step * i) % 10, 9 * i, 9 * i + 9, 50, 50);
                }
                check.due("pairs() of the chain", s.pairs(), 9);
                check.due("from one end", s.cluster(first), ALL);
                check.due("from the other", s.cluster((first + step * 9) % 10), ALL);
            }
        }
        SweepPairs zigzag = new SweepPairs();
        int[] order = {5, 4, 6, 3, 7, 2, 8, 1, 9, 0};
        for (int i = 0; i < 10; i++) {
            put(zigzag, order[i], 9 * i, 9 * i + 9, 9 * i, 9 * i + 9);
        }
        for (int k = 0; k < 10; k++) {
            check.due("zigzag by corners, cluster(" + k + ")", zigzag.cluster(k), ALL);
        }
        zigzag.remove(7);
        check.due("the near part", zigzag.cluster(5), 32 + 16 + 64 + 8);
        check.due("the far part", zigzag.cluster(0), 4 + 256 + 2 + 512 + 1);
    }

    private static void clusterAlone() {
        SweepPairs row = Boundaries.row();
        SweepPairs heap = Boundaries.heap();
        for (int k = 0; k < 10; k++) {
            check.due("alone, cluster(" + k + ")", row.cluster(k), 1 << k);
            check.due("with all, cluster(" + k + ")", heap.cluster(k), ALL);
        }
        SweepPairs s = new SweepPairs();
        put(s, 3, 0, 0, 0, 0);
        check.due("the only box", s.cluster(3), 8);
    }

    private static void clusterNotThere() {
        SweepPairs s = Boundaries.scene();
        put(s, 8, 0, 99, 0, 99);
        check.due("never there", s.cluster(1), 0);
        check.due("taken away", s.cluster(7), 0);
        for (int k : Boundaries.NO_BOX) {
            check.due("cluster(" + k + ")", s.cluster(k), 0);
        }
    }

    private static void clustersNoneToAll() {
        SweepPairs s = new SweepPairs();
        check.due("no box", s.clusters(), 0);
        put(s, 9, 0, 0, 0, 0);
        check.due("one box, the last", s.clusters(), 1);
        s.remove(9);
        check.due("none again", s.clusters(), 0);
        check.due("ten apart", Boundaries.row().clusters(), 10);
        check.due("ten together", Boundaries.heap().clusters(), 1);
        SweepPairs twos = Boundaries.row();
        for (int k = 0; k < 10; k += 2) {
            twos.move(k, 1, 1);
        }
        check.due("five of two each", twos.clusters(), 5);
        check.due("one cluster and a box away from it", cutOff(), 2);
    }

    private static int cutOff() {
        SweepPairs s = Boundaries.scene();
        put(s, 1, 99, 99, 0, 0);
        return s.clusters();
    }

    private static void atEdges() {
        SweepPairs s = new SweepPairs();
        put(s, 9, 10, 20, 30, 40);
        for (int x = 0; x <= 99; x++) {
            SweepPairs t = new SweepPairs();
            put(t, 9, 10, 20, 30, 40);
            int wantX = x >= 10 && x <= 20 ? 512 : 0;
            check.due("at(" + x + ", 29)", t.at(x, 29), 0);
            check.due("at(" + x + ", 30)", t.at(x, 30), wantX);
            check.due("at(" + x + ", 40)", t.at(x, 40), wantX);
            check.due("at(" + x + ", 41)", t.at(x, 41), 0);
        }
        check.due("all have it", Boundaries.heap().at(50, 50), ALL);
        check.due("all but 0 have it", Boundaries.heap().at(51, 49), ALL - 1);
        check.due("9 alone has it", Boundaries.heap().at(41, 59), 512);
        check.due("none has it", Boundaries.heap().at(40, 50), 0);
        check.due("none is there", new SweepPairs().at(0, 0), 0);
        s.remove(9);
        check.due("taken away", s.at(15, 35), 0);
    }

    private static void atOutside() {
        SweepPairs s = new SweepPairs();
        put(s, 0, 0, 99, 0, 99);
        for (int end : new int[] {0, 99}) {
            check.due("at(0, " + end + ")", s.at(0, end), 1);
            check.due("at(99, " + end + ")", s.at(99, end), 1);
        }
        for (int off : new int[] {-1, 100, -100, 199, 256, 65536, LEAST, GREATEST}) {
            check.due("at(" + off + ", 0)", s.at(off, 0), 0);
            check.due("at(" + off + ", 99)", s.at(off, 99), 0);
            check.due("at(0, " + off + ")", s.at(0, off), 0);
            check.due("at(99, " + off + ")", s.at(99, off), 0);
            check.due("at(" + off + ", " + off + ")", s.at(off, off), 0);
        }
    }

    private static void deepestNoneToAll() {
        SweepPairs s = new SweepPairs();
        check.due("no box", s.deepest(), 0);
        put(s, 9, 99, 99, 99, 99);
        check.due("one box, one point", s.deepest(), 1);
        put(s, 0, 0, 0, 0, 0);
        check.due("two apart", s.deepest(), 1);
        s.remove(9);
        s.remove(0);
        check.due("none again", s.deepest(), 0);
        check.due("ten apart", Boundaries.row().deepest(), 1);
        SweepPairs heap = Boundaries.heap();
        for (int k = 0; k < 10; k++) {
            check.due("a heap of " + (10 - k), heap.deepest(), 10 - k);
            heap.remove(k);
        }
        check.due("the heap gone", heap.deepest(), 0);
    }

    // The point lies at a low along x of one box and a low along y of another, and
    // at both highs of a third, in each corner of the field.
    private static void deepestOnePoint() {
        int[][] points = {{0, 0}, {0, 99}, {99, 0}, {99, 99}, {37, 62}};
        for (int[] p : points) {
            SweepPairs s = new SweepPairs();
            put(s, 2, p[0], 99, 0, 99);
            put(s, 5, 0, 99, p[1], 99);
            put(s, 8, 0, p[0], 0, p[1]);
            check.due("three at " + p[0] + ", " + p[1], s.deepest(), 3);
        }
        SweepPairs chain = new SweepPairs();
        for (int k = 0; k < 10; k++) {
            put(chain, k, 9 * k, 9 * k + 9, 0, 99);
        }
        check.due("a chain: never three in one point", chain.deepest(), 2);
        SweepPairs star = new SweepPairs();
        put(star, 0, 0, 99, 50, 50);
        for (int k = 1; k < 10; k++) {
            put(star, k, 11 * k - 11, 11 * k - 1, 0, 99);
        }
        check.due("nine partners, two in one point", star.deepest(), 2);
    }

    private static void rankByLow() {
        SweepPairs s = new SweepPairs();
        for (int k = 0; k < 10; k++) {
            put(s, k, 99 - k, 99, k, 99);
        }
        for (int k = 0; k < 10; k++) {
            check.due("rank(" + k + ", 0)", s.rank(k, 0), 9 - k);
            check.due("rank(" + k + ", 1)", s.rank(k, 1), k);
        }
        SweepPairs highs = new SweepPairs();
        put(highs, 1, 10, 90, 10, 10);
        put(highs, 2, 11, 11, 9, 90);
        check.due("the high does not matter, rank(1, 0)", highs.rank(1, 0), 0);
        check.due("the high does not matter, rank(2, 0)", highs.rank(2, 0), 1);
        check.due("the high does not matter, rank(1, 1)", highs.rank(1, 1), 1);
        check.due("the high does not matter, rank(2, 1)", highs.rank(2, 1), 0);
    }

    private static void rankEqualLows() {
        SweepPairs s = new SweepPairs();
        for (int k = 9; k >= 0; k--) {
            put(s, k, 0, 9 - k, 99, 99);
        }
        for (int k = 0; k < 10; k++) {
            check.due("all equal, rank(" + k + ", 0)", s.rank(k, 0), k);
            check.due("all equal, rank(" + k + ", 1)", s.rank(k, 1), k);
        }
        put(s, 0, 1, 1, 98, 98);
        check.due("one more, rank(0, 0)", s.rank(0, 0), 9);
        check.due("one less, rank(0, 1)", s.rank(0, 1), 0);
        check.due("before the rest, rank(9, 0)", s.rank(9, 0), 8);
        check.due("before the rest, rank(9, 1)", s.rank(9, 1), 9);
    }

    // A box that never was there may be held as the point (0, 0).
    private static void rankOfThoseThere() {
        SweepPairs s = new SweepPairs();
        put(s, 9, 99, 99, 99, 99);
        check.due("the only box, along x", s.rank(9, 0), 0);
        check.due("the only box, along y", s.rank(9, 1), 0);
        put(s, 3, 5, 5, 5, 5);
        check.due("with box 3", s.rank(9, 0), 1);
        s.remove(3);
        check.due("without it again, along x", s.rank(9, 0), 0);
        check.due("without it again, along y", s.rank(9, 1), 0);
    }

    private static void rankNotThere() {
        for (int axis = 0; axis < 2; axis++) {
            int of = axis;
            check.refused("never there, rank(1, " + of + ")", s -> s.rank(1, of));
            check.refused("taken away, rank(7, " + of + ")", s -> s.rank(7, of));
            for (int k : Boundaries.NO_BOX) {
                check.refused("rank(" + k + ", " + of + ")", s -> s.rank(k, of));
            }
        }
    }

    private static void rankWrongAxis() {
        for (int axis : new int[] {-1, 2, 3, -2, 32, LEAST, GREATEST}) {
            check.refused("rank(0, " + axis + ")", s -> s.rank(0, axis));
            check.refused("rank(4, " + axis + ")", s -> s.rank(4, axis));
            check.refused("rank(9, " + axis + ")", s -> s.rank(9, axis));
        }
    }

    private static void withinEachSide() {
        for (int x0 = 9; x0 <= 11; x0++) {
            for (int x1 = 19; x1 <= 21; x1++) {
                for (int y0 = 29; y0 <= 31; y0++) {
                    for (int y1 = 39; y1 <= 41; y1++) {
                        withinDue(x0, x1, y0, y1);
                    }
                }
            }
        }
        SweepPairs s = new SweepPairs();
        put(s, 0, 0, 99, 0, 99);
        put(s, 1, 99, 99, 0, 0);
        check.due("a corner point in the whole field", s.within(1, 0), true);
        check.due("the whole field in a corner point", s.within(0, 1), false);
    }

    private static void withinDue(int x0, int x1, int y0, int y1) {
        SweepPairs s = new SweepPairs();
        put(s, 8, 10, 20, 30, 40);
        put(s, 2, x0, x1, y0, y1);
        boolean inside = x0 >= 10 && x1 <= 20 && y0 >= 30 && y1 <= 40;
        boolean around = x0 <= 10 && x1 >= 20 && y0 <= 30 && y1 >= 40;
        String box = x0 + " .. " + x1 + ", " + y0 + " .. " + y1;
        check.due(box + " in 10 .. 20, 30 .. 40", s.within(2, 8), inside);
        check.due("10 .. 20, 30 .. 40 in " + box, s.within(8, 2), around);
    }

    private static void withinNotThere() {
        SweepPairs s = Boundaries.scene();
        put(s, 8, 0, 99, 0, 99);
        put(s, 0, 0, 0, 0, 0);
        check.due("there, in one there", s.within(0, 8), true);
        check.due("never there, in one there", s.within(1, 8), false);
        check.due("there, in one never there", s.within(0, 1), false);
        check.due("taken away, in one there", s.within(7, 8), false);
        check.due("there, in one taken away", s.within(0, 7), false);
        check.due("neither there", s.within(1, 2), false);
        for (int k : Boundaries.NO_BOX) {
            check.due("within(" + k + ", 8)", s.within(k, 8), false);
            check.due("within(0, " + k + ")", s.within(0, k), false);
            check.due("within(" + k + ", " + k + ")", s.within(k, k), false);
        }
    }

    private static void withinItself() {
        SweepPairs heap = Boundaries.heap();
        for (int k = 0; k < 10; k++) {
            check.due("within(" + k + ", " + k + ")", heap.within(k, k), false);
        }
        SweepPairs twins = new SweepPairs();
        put(twins, 0, 5, 5, 5, 5);
        put(twins, 9, 5, 5, 5, 5);
        check.due("equal but different", twins.within(0, 9), true);
        check.due("equal but different, the other way", twins.within(9, 0), true);
    }
}
