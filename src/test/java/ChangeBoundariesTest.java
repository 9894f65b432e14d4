/** A test for each sentence that names a boundary case: the use, the terms, promises 1 to 4. */
public final class ChangeBoundariesTest {
    private static final int BAD = Boundaries.BAD;
    private static final int LEAST = Boundaries.LEAST;
    private static final int GREATEST = Boundaries.GREATEST;

    private static final Boundaries check = new Boundaries("ChangeBoundariesTest");

    public static void main(String[] args) {
        check.sentence("an object is used for at most 512 calls", ChangeBoundariesTest::lastCall);
        terms();
        check.sentence("1: no box is there", ChangeBoundariesTest::newObject);
        putSentences();
        moveSentences();
        removeSentences();
        check.end();
    }

    private static void terms() {
        check.sentence("there are boxes 0 .. 9", ChangeBoundariesTest::boxNumbers);
        check.sentence("each of which is there or not", ChangeBoundariesTest::thereOrNot);
        check.sentence("low <= high", ChangeBoundariesTest::lowIsHigh);
        check.sentence("spans from 0 to 99", ChangeBoundariesTest::spanEnds);
        check.sentence("two different boxes overlap", ChangeBoundariesTest::notWithItself);
        check.sentence("boxes that are there overlap", ChangeBoundariesTest::onlyThoseThere);
        check.sentence("they have a point in common", ChangeBoundariesTest::onePointInCommon);
        check.sentence("greater low at most lesser high", ChangeBoundariesTest::everyPlaceAlongAnAxis);
        check.sentence("along x and along y", ChangeBoundariesTest::alongBoth);
    }

    private static void putSentences() {
        check.sentence("2: xs is x0 + 100 * x1, ys is y0 + 100 * y1", ChangeBoundariesTest::putSpans);
        check.sentence("2: there then, whether before or not", ChangeBoundariesTest::putThereThen);
        check.sentence("2: pairs that overlap now and did not before", ChangeBoundariesTest::putMeets);
        check.sentence("2: or did before and do not now", ChangeBoundariesTest::putParts);
        check.sentence("2: pairs that did and do are not counted", ChangeBoundariesTest::putKeeps);
        check.sentence("2: BAD when k is not 0 .. 9", ChangeBoundariesTest::putNoBox);
        check.sentence("2: BAD when xs is not 0 .. 9999", ChangeBoundariesTest::putWrongXs);
        check.sentence("2: BAD when ys is not 0 .. 9999", ChangeBoundariesTest::putWrongYs);
        check.sentence("2: BAD when x0 > x1", ChangeBoundariesTest::putXTurnedRound);
        check.sentence("2: BAD when y0 > y1", ChangeBoundariesTest::putYTurnedRound);
        check.sentence("2: BAD, changing nothing", ChangeBoundariesTest::putRefusedThenGoesOn);
    }

    private static void moveSentences() {
        check.sentence("3: answers as put does", ChangeBoundariesTest::moveAnswers);
        check.sentence("3: BAD when it is not there", ChangeBoundariesTest::moveNotThere);
        check.sentence("3: within 0 .. 99 as far as it goes", ChangeBoundariesTest::moveToTheEnds);
        check.sentence("3: BAD when not within 0 .. 99", ChangeBoundariesTest::moveBeyondTheEnds);
        check.sentence("3: BAD when the way is so great that a sum wraps", ChangeBoundariesTest::moveWrapsAround);
        check.sentence("3: a box that fills the field", ChangeBoundariesTest::moveWithoutRoom);
        check.sentence("3: BAD, changing nothing", ChangeBoundariesTest::moveRefusedThenGoesOn);
    }

    private static void removeSentences() {
        check.sentence("4: takes box k away", ChangeBoundariesTest::removeTakesAway);
        check.sentence("4: the number of boxes it overlapped", ChangeBoundariesTest::removeCounts);
        check.sentence("4: BAD when it is not there", ChangeBoundariesTest::removeNotThere);
    }

    private static int put(SweepPairs s, int k, int x0, int x1, int y0, int y1) {
        return Boundaries.put(s, k, x0, x1, y0, y1);
    }

    private static SweepPairs after511Calls() {
        SweepPairs s = new SweepPairs();
        put(s, 0, 10, 20, 10, 20);
        put(s, 9, 20, 30, 20, 30);
        for (int call = 3; call <= 511; call++) {
            int by = call % 2 == 1 ? 1 : -1;
            check.due("call " + call, s.move(9, by, 0), 1);
        }
        return s;
    }

    // After an odd number of moves box 9 is one to the right, apart from box 0.
    private static void lastCall() {
        check.due("last put", put(after511Calls(), 1, 20, 21, 20, 21), 2);
        check.due("last move", after511Calls().move(9, -1, 0), 1);
        check.due("last remove", after511Calls().remove(9), 0);
        check.due("last boxes", after511Calls().boxes(), 1 + 512);
        check.due("last edge", after511Calls().edge(9, 0), 21);
        check.due("last partners", after511Calls().partners(0), 0);
        check.due("last pairs", after511Calls().pairs(), 0);
        check.due("last pair", after511Calls().pair(0), BAD);
        check.due("last cluster", after511Calls().cluster(9), 512);
        check.due("last clusters", after511Calls().clusters(), 2);
        check.due("last at", after511Calls().at(21, 20), 512);
        check.due("last deepest", after511Calls().deepest(), 1);
        check.due("last rank", after511Calls().rank(9, 0), 1);
        check.due("last within", after511Calls().within(9, 0), false);
    }

    private static void boxNumbers() {
        for (int k = 0; k <= 9; k++) {
            SweepPairs s = new SweepPairs();
            check.due("put of box " + k, put(s, k, k, k, k, k), 0);
            check.due("boxes() with " + k, s.boxes(), 1 << k);
        }
        SweepPairs full = Boundaries.heap();
        for (int k : Boundaries.NO_BOX) {
            check.due("full: put of " + k, put(full, k, 1, 2, 3, 4), BAD);
        }
        check.due("full: boxes()", full.boxes(), Boundaries.ALL);
    }

    private static void thereOrNot() {
        for (int set = 0; set <= Boundaries.ALL; set++) {
            SweepPairs s = new SweepPairs();
            for (int k = 0; k < 10; k++) {
                if ((set >> k & 1) == 1) {
                    put(s, k, 0, 0, 0, 0);
                }
            }
            check.due("boxes() of " + set, s.boxes(), set);
            check.due("at(0, 0) of " + set, s.at(0, 0), set);
        }
    }

    private static void lowIsHigh() {
        for (int place = 0; place <= 99; place++) {
            SweepPairs s = new SweepPairs();
            check.due("one point at " + place, put(s, 0, place, place, 99 - place, 99 - place), 0);
            check.edgesDue("one point", s, 0, place, place, 99 - place, 99 - place);
        }
    }

    private static void spanEnds() {
        SweepPairs s = new SweepPairs();
        check.due("the least point", put(s, 0, 0, 0, 0, 0), 0);
        check.edgesDue("the least point", s, 0, 0, 0, 0, 0);
        check.due("the greatest point", put(s, 9, 99, 99, 99, 99), 0);
        check.edgesDue("the greatest point", s, 9, 99, 99, 99, 99);
        check.due("the whole field", put(s, 5, 0, 99, 0, 99), 2);
        check.edgesDue("the whole field", s, 5, 0, 99, 0, 99);
    }

    private static void notWithItself() {
        for (int k = 0; k <= 9; k++) {
            SweepPairs s = new SweepPairs();
            check.due("put of " + k, put(s, k, 0, 99, 0, 99), 0);
            check.due("partners(" + k + ")", s.partners(k), 0);
            check.due("pairs()", s.pairs(), 0);
            check.due("pair(0)", s.pair(0), BAD);
            check.due("put again where it was", put(s, k, 0, 99, 0, 99), 0);
            check.due("remove(" + k + ")", s.remove(k), 0);
        }
    }

    // A box that never was there may be held as the point (0, 0).
    private static void onlyThoseThere() {
        SweepPairs s = new SweepPairs();
        check.due("the first box, at (0, 0)", put(s, 4, 0, 0, 0, 0), 0);
        check.due("partners(4)", s.partners(4), 0);
        check.due("pairs() of one", s.pairs(), 0);
        put(s, 5, 0, 99, 0, 99);
        check.due("pairs() of two", s.pairs(), 1);
        s.remove(5);
        check.due("partners(4) after remove(5)", s.partners(4), 0);
        check.due("partners(5) after remove(5)", s.partners(5), 0);
        check.due("pairs() after remove(5)", s.pairs(), 0);
        check.due("box 6 meets box 4 alone", put(s, 6, 0, 50, 0, 50), 1);
    }

    private static void onePointInCommon() {
        int[][] corners = {{30, 40, 30, 40}, {30, 40, 50, 60}, {50, 60, 30, 40}, {50, 60, 50, 60}};
        for (int[] e : corners) {
            SweepPairs s = new SweepPairs();
            put(s, 0, 40, 50, 40, 50);
            check.due("corner to corner", put(s, 1, e[0], e[1], e[2], e[3]), 1);
            check.due("corner to corner, partners(0)", s.partners(0), 2);
            check.due("corner to corner, partners(1)", s.partners(1), 1);
        }
        SweepPairs points = new SweepPairs();
        put(points, 0, 99, 99, 0, 0);
        check.due("the same point twice", put(points, 1, 99, 99, 0, 0), 1);
        check.due("the next point along x", put(points, 1, 98, 98, 0, 0), 1);
        check.due("the next point along x, pairs()", points.pairs(), 0);
        check.due("the next point along y", put(points, 1, 99, 99, 1, 1), 0);
    }

    // Box 1 has a length of 4, so it meets 40 .. 50 just when its low is 37 .. 50.
    private static void everyPlaceAlongAnAxis() {
        for (int low = 0; low <= 96; low++) {
            int want = low >= 37 && low <= 50 ? 1 : 0;
            SweepPairs s = new SweepPairs();
            put(s, 0, 40, 50, 40, 50);
            check.due("along x at " + low, put(s, 1, low, low + 3, 45, 46), want);
            check.due("along x at " + low + ", pairs()", s.pairs(), want);
            SweepPairs t = new SweepPairs();
            put(t, 0, 40, 50, 40, 50);
            check.due("along y at " + low, put(t, 1, 45, 46, low, low + 3), want);
            check.due("along y at " + low + ", pairs()", t.pairs(), want);
        }
    }

    private static void alongBoth() {
        SweepPairs s = new SweepPairs();
        put(s, 0, 40, 50, 40, 50);
        check.due("the same x, y below", put(s, 1, 40, 50, 0, 39), 0);
        check.due("the same x, y above", put(s, 2, 40, 50, 51, 99), 0);
        check.due("the same y, x below", put(s, 3, 0, 39, 40, 50), 0);
        check.due("the same y, x above", put(s, 4, 51, 99, 40, 50), 0);
        check.due("partners(0)", s.partners(0), 0);
        check.due("a cross through all", put(s, 5, 0, 99, 40, 50), 3);
    }

    private static void newObject() {
        SweepPairs s = new SweepPairs();
        check.due("boxes()", s.boxes(), 0);
        check.due("at(0, 0)", s.at(0, 0), 0);
        for (int k = 0; k < 10; k++) {
            check.due("edge(" + k + ", 0)", s.edge(k, 0), BAD);
            check.due("move(" + k + ", 0, 0)", s.move(k, 0, 0), BAD);
            check.due("remove(" + k + ")", s.remove(k), BAD);
        }
    }

    private static void putSpans() {
        for (int x0 = 0; x0 <= 99; x0++) {
            SweepPairs s = new SweepPairs();
            for (int x1 = x0; x1 <= 99; x1++) {
                check.due("put", s.put(3, x0 + 100 * x1, 99 - x1 + 100 * (99 - x0)), 0);
                check.edgesDue("put", s, 3, x0, x1, 99 - x1, 99 - x0);
            }
        }
    }

    private static void putThereThen() {
        SweepPairs s = new SweepPairs();
        put(s, 8, 1, 2, 3, 4);
        check.due("not there before", s.boxes(), 256);
        put(s, 8, 5, 6, 7, 8);
        check.due("there before", s.boxes(), 256);
        check.edgesDue("there before", s, 8, 5, 6, 7, 8);
        check.due("where it was", s.at(1, 3), 0);
        s.remove(8);
        put(s, 8, 9, 10, 11, 12);
        check.due("taken away before", s.boxes(), 256);
        check.edgesDue("taken away before", s, 8, 9, 10, 11, 12);
    }

    private static void putMeets() {
        SweepPairs s = Boundaries.heap();
        put(s, 4, 0, 0, 0, 0);
        check.due("meets all nine", put(s, 4, 0, 99, 0, 99), 9);
        s.remove(4);
        check.due("meets all nine when it was not there", put(s, 4, 50, 50, 50, 50), 9);
        check.due("pairs()", s.pairs(), 45);
        SweepPairs alone = Boundaries.row();
        check.due("meets none", put(alone, 3, 0, 9, 50, 59), 0);
    }

    private static void putParts() {
        SweepPairs s = Boundaries.heap();
        check.due("parts from all nine", put(s, 0, 0, 0, 0, 0), 9);
        check.due("pairs()", s.pairs(), 36);
        put(s, 0, 50, 50, 50, 50);
        s.remove(0);
        check.due("what it overlapped before it was away is no change", put(s, 0, 0, 0, 0, 0), 0);
    }

    private static void putKeeps() {
        SweepPairs s = Boundaries.heap();
        check.due("keeps all nine", put(s, 0, 0, 99, 0, 99), 0);
        put(s, 8, 0, 9, 0, 9);
        put(s, 9, 10, 19, 0, 9);
        check.due("keeps 8, leaves the other eight", put(s, 0, 0, 9, 0, 9), 8);
        check.due("leaves 8, meets 9: no pair more, two changed", put(s, 0, 10, 19, 0, 9), 2);
        check.due("meets 8 again, keeps 9", put(s, 0, 9, 10, 0, 9), 1);
    }

    private static void putNoBox() {
        for (int k : Boundaries.NO_BOX) {
            check.refused("put(" + k + ", 0, 0)", s -> s.put(k, 0, 0));
            check.refused("put(" + k + ", 9900, 9900)", s -> s.put(k, 9900, 9900));
        }
    }

    // -1, -101 and those above 9999 have a low that is at most their high, so that only
    // the bound can refuse them.
    private static final int[] NO_CODE = {-1, -100, -101, -9900, 10000, 10001, 10099, 19999, LEAST, GREATEST};

    private static void putWrongXs() {
        for (int xs : NO_CODE) {
            check.refused("put(4, " + xs + ", 9900)", s -> s.put(4, xs, 9900));
            check.refused("put(1, " + xs + ", 9900)", s -> s.put(1, xs, 9900));
        }
        SweepPairs s = new SweepPairs();
        check.due("put(4, 0, 100), the least", s.put(4, 0, 100), 0);
        check.due("put(4, 9999, 100), the greatest", s.put(4, 9999, 100), 0);
    }

    private static void putWrongYs() {
        for (int ys : NO_CODE) {
            check.refused("put(4, 9900, " + ys + ")", s -> s.put(4, 9900, ys));
            check.refused("put(1, 9900, " + ys + ")", s -> s.put(1, 9900, ys));
        }
        SweepPairs s = new SweepPairs();
        check.due("put(4, 100, 0), the least", s.put(4, 100, 0), 0);
        check.due("put(4, 100, 9999), the greatest", s.put(4, 100, 9999), 0);
    }

    private static void putXTurnedRound() {
        for (int x1 = 0; x1 <= 98; x1++) {
            int nearest = x1 + 1 + 100 * x1;
            check.refused("put(4, " + nearest + ", 9900)", s -> s.put(4, nearest, 9900));
        }
        check.refused("put(1, 99, 9900), not there before", s -> s.put(1, 99, 9900));
    }

    private static void putYTurnedRound() {
        for (int y1 = 0; y1 <= 98; y1++) {
            int nearest = y1 + 1 + 100 * y1;
            check.refused("put(4, 9900, " + nearest + ")", s -> s.put(4, 9900, nearest));
        }
        check.refused("put(1, 9900, 99), not there before", s -> s.put(1, 9900, 99));
    }

    // What the next put counts as `before` must not come from the refused one.
    private static void putRefusedThenGoesOn() {
        int[][] refused = {{9999, 9899}, {9899, 9999}, {9999, -1}, {-1, 9999}, {9999, 10000}, {10000, 9999}};
        for (int[] spans : refused) {
            String name = spans[0] + ", " + spans[1];
            check.refused("there, put(4, " + name + ")", s -> s.put(4, spans[0], spans[1]));
            check.refused("never there, put(1, " + name + ")", s -> s.put(1, spans[0], spans[1]));
            check.refused("taken away, put(7, " + name + ")", s -> s.put(7, spans[0], spans[1]));
            SweepPairs s = Boundaries.scene();
            s.put(4, spans[0], spans[1]);
            s.put(1, spans[0], spans[1]);
            check.due("where it was", put(s, 4, 15, 25, 35, 45), 0);
            check.due("not there yet", s.remove(1), BAD);
            check.due("now there", put(s, 1, 0, 99, 0, 99), 4);
        }
    }

    private static void moveAnswers() {
        SweepPairs s = Boundaries.heap();
        check.due("nowhere", s.move(0, 0, 0), 0);
        check.due("parts from all nine", s.move(0, 49, 49), 9);
        check.due("meets all nine", s.move(0, -49, -49), 9);
        check.due("keeps eight, parts from 1", s.move(0, 2, 0), 1);
        check.due("meets 1, as a point on its edge", s.move(0, -1, 1), 1);
        SweepPairs t = Boundaries.row();
        check.due("keeps apart", t.move(0, 0, 90), 0);
        check.due("leaves none, meets 9", t.move(0, 90, 0), 1);
        check.due("leaves 9, meets 8", t.move(0, -10, -10), 2);
    }

    private static void moveNotThere() {
        check.refused("never there, nowhere", s -> s.move(1, 0, 0));
        check.refused("never there, one on", s -> s.move(1, 1, 1));
        check.refused("taken away, nowhere", s -> s.move(7, 0, 0));
        check.refused("taken away, one on", s -> s.move(7, 1, 1));
        for (int k : Boundaries.NO_BOX) {
            check.refused("move(" + k + ", 0, 0)", s -> s.move(k, 0, 0));
            check.refused("move(" + k + ", 1, 1)", s -> s.move(k, 1, 1));
        }
    }

    private static void moveToTheEnds() {
        SweepPairs s = new SweepPairs();
        put(s, 5, 10, 20, 30, 40);
        check.due("low along x to 0", s.move(5, -10, 0), 0);
        check.edgesDue("low along x to 0", s, 5, 0, 10, 30, 40);
        check.due("high along x to 99", s.move(5, 89, 0), 0);
        check.edgesDue("high along x to 99", s, 5, 89, 99, 30, 40);
        check.due("low along y to 0", s.move(5, 0, -30), 0);
        check.edgesDue("low along y to 0", s, 5, 89, 99, 0, 10);
        check.due("high along y to 99", s.move(5, 0, 89), 0);
        check.edgesDue("high along y to 99", s, 5, 89, 99, 89, 99);
        put(s, 5, 0, 0, 99, 99);
        check.due("a point from end to end", s.move(5, 99, -99), 0);
        check.edgesDue("a point from end to end", s, 5, 99, 99, 0, 0);
    }

    // Box 0 of the scene has 10 .. 20 along x and 30 .. 40 along y; the other axis's
    // way is one that it could go.
    private static void moveBeyondTheEnds() {
        check.refused("low along x to -1", s -> s.move(0, -11, 5));
        check.refused("high along x to 100", s -> s.move(0, 80, 5));
        check.refused("low along y to -1", s -> s.move(0, 5, -31));
        check.refused("high along y to 100", s -> s.move(0, 5, 60));
        check.refused("high along x to -1", s -> s.move(0, -21, 5));
        check.refused("low along x to 100", s -> s.move(0, 90, 5));
        check.refused("high along y to -1", s -> s.move(0, 5, -41));
        check.refused("low along y to 100", s -> s.move(0, 5, 70));
        check.refused("both to -1", s -> s.move(0, -11, -31));
        check.refused("both to 100", s -> s.move(0, 80, 60));
    }

    // Somewhere among these the sum with a high wraps around and that with the low
    // does not, or the sum comes out inside the field again in a narrower type.
    private static void moveWrapsAround() {
        for (int off = 0; off <= 120; off++) {
            int far = GREATEST - off;
            int back = LEAST + off;
            SweepPairs s = new SweepPairs();
            put(s, 2, 10, 20, 30, 40);
            check.due("move(2, " + far + ", 0)", s.move(2, far, 0), BAD);
            check.due("move(2, " + back + ", 0)", s.move(2, back, 0), BAD);
            check.due("move(2, 0, " + far + ")", s.move(2, 0, far), BAD);
            check.due("move(2, 0, " + back + ")", s.move(2, 0, back), BAD);
            check.edgesDue("after " + off, s, 2, 10, 20, 30, 40);
        }
        for (int bits = 7; bits <= 30; bits++) {
            int by = 1 << bits;
            check.refused("move(0, " + by + ", 0)", s -> s.move(0, by, 0));
            check.refused("move(0, " + -by + ", 0)", s -> s.move(0, -by, 0));
            check.refused("move(0, 0, " + by + ")", s -> s.move(0, 0, by));
            check.refused("move(0, 0, " + -by + ")", s -> s.move(0, 0, -by));
        }
    }

    private static void moveWithoutRoom() {
        SweepPairs s = new SweepPairs();
        put(s, 3, 0, 99, 0, 99);
        check.due("one on along x", s.move(3, 1, 0), BAD);
        check.due("one back along x", s.move(3, -1, 0), BAD);
        check.due("one on along y", s.move(3, 0, 1), BAD);
        check.due("one back along y", s.move(3, 0, -1), BAD);
        check.due("the greatest way", s.move(3, GREATEST, GREATEST), BAD);
        check.due("the least way", s.move(3, LEAST, LEAST), BAD);
        check.due("nowhere", s.move(3, 0, 0), 0);
        check.edgesDue("after all", s, 3, 0, 99, 0, 99);
    }

    private static void moveRefusedThenGoesOn() {
        SweepPairs s = Boundaries.scene();
        check.due("x could, y could not", s.move(0, 70, 60), BAD);
        check.due("y could, x could not", s.move(0, 80, 50), BAD);
        check.due("nowhere", s.move(0, 0, 0), 0);
        check.due("both could", s.move(0, 79, 59), 2);
        check.edgesDue("both could", s, 0, 89, 99, 89, 99);
    }

    private static void removeTakesAway() {
        SweepPairs s = Boundaries.scene();
        s.remove(9);
        check.due("boxes()", s.boxes(), 1 + 16 + 64);
        check.due("edge(9, 0)", s.edge(9, 0), BAD);
        check.due("at(50, 70)", s.at(50, 70), 64);
        check.due("pairs()", s.pairs(), 1);
        check.edgesDue("others stay", s, 0, 10, 20, 30, 40);
        check.edgesDue("others stay", s, 4, 15, 25, 35, 45);
        check.edgesDue("others stay", s, 6, 50, 60, 70, 80);
        s.remove(0);
        s.remove(4);
        s.remove(6);
        check.due("boxes() when the last is away", s.boxes(), 0);
        for (int k = 0; k < 10; k++) {
            SweepPairs heap = Boundaries.heap();
            heap.remove(k);
            check.due("no other, remove(" + k + ")", heap.boxes(), Boundaries.ALL - (1 << k));
        }
    }

    private static void removeCounts() {
        SweepPairs heap = Boundaries.heap();
        SweepPairs row = Boundaries.row();
        for (int k = 9; k >= 0; k--) {
            check.due("of a heap, remove(" + k + ")", heap.remove(k), k);
            check.due("of a row, remove(" + k + ")", row.remove(k), 0);
        }
        SweepPairs s = Boundaries.scene();
        check.due("partners, not the cluster", s.remove(6), 1);
    }

    private static void removeNotThere() {
        check.refused("never there", s -> s.remove(1));
        check.refused("taken away", s -> s.remove(7));
        for (int k : Boundaries.NO_BOX) {
            check.refused("remove(" + k + ")", s -> s.remove(k));
        }
    }
}
