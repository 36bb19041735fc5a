// Promises 6 to 9, and 13 for nearest: a test for each sentence, or for each boundary in it.
public final class QuestionEdgeTest {
    private static final int LEAST = Trees.LEAST;
    private static final int MOST = Trees.MOST;

    public static void main(String[] args) {
        Due.sentence("6: the k-th point, k from 0", QuestionEdgeTest::everyRank);
        Due.sentence("6: BAD for x or y outside -200..200", QuestionEdgeTest::nearestOutside);
        Due.sentence("6: no BAD for x and y in -200..200", QuestionEdgeTest::nearestAtTheEdge);
        Due.sentence("6: NONE if k is outside 0 .. size() - 1", QuestionEdgeTest::noSuchRank);
        Due.sentence("6: NONE for every k without points", QuestionEdgeTest::noRanks);
        Due.sentence("7: a distance of at most r2", QuestionEdgeTest::withinTheRim);
        Due.sentence("7: r2 may be any int", QuestionEdgeTest::withinAnyRadius);
        Due.sentence("7: BAD for x or y outside -200..200", QuestionEdgeTest::withinOutside);
        Due.sentence("7: no BAD for x and y in -200..200", QuestionEdgeTest::withinAtTheEdge);
        Due.sentence("8: left <= x", QuestionEdgeTest::leftEdge);
        Due.sentence("8: x <= right", QuestionEdgeTest::rightEdge);
        Due.sentence("8: bottom <= y", QuestionEdgeTest::bottomEdge);
        Due.sentence("8: y <= top", QuestionEdgeTest::topEdge);
        Due.sentence("8: besides: both must hold", QuestionEdgeTest::bothMustHold);
        Due.sentence("8: the four numbers may be any ints", QuestionEdgeTest::anyBox);
        Due.sentence("8: the four numbers may be the wrong way round", QuestionEdgeTest::turnedBox);
        Due.sentence("9: of two points in different places", QuestionEdgeTest::differentPlaces);
        Due.sentence("9: the smallest distance", QuestionEdgeTest::smallestDistance);
        Due.sentence("9: NONE if there are fewer than two points", QuestionEdgeTest::fewerThanTwo);
        Due.sentence("13: nearest: BAD is tested before NONE", QuestionEdgeTest::badBeforeNone);
        Due.sentence("6 to 9: a question changes nothing", QuestionEdgeTest::questionsChangeNothing);
        Due.sentence("6 to 9: each question is answered anew", QuestionEdgeTest::questionsStandAlone);
        Due.end();
    }

    private static void everyRank() {
        NearTree tree = Trees.row();
        for (int k = 0; k < 24; k++) {
            Due.is("from the left, k " + k, tree.nearest(-200, 0, k), k);
            Due.is("from the right, k " + k, tree.nearest(200, 0, k), 23 - k);
        }
        Due.is("the only point", Trees.with(0, 0).nearest(0, 0, 0), 0);
    }

    private static void nearestOutside() {
        NearTree tree = Trees.with(0, 0);
        for (int far : Trees.outsideSpot()) {
            Due.is("nearest(" + far + ", 0, 0)", tree.nearest(far, 0, 0), NearTree.BAD);
            Due.is("nearest(0, " + far + ", 0)", tree.nearest(0, far, 0), NearTree.BAD);
            Due.is("nearest(200, " + far + ", 0)", tree.nearest(200, far, 0), NearTree.BAD);
            Due.is("nearest(" + far + ", " + far + ", 0)", tree.nearest(far, far, 0), NearTree.BAD);
        }
    }

    private static void nearestAtTheEdge() {
        NearTree tree = Trees.with(100, 100, 100, -100, -100, 100, -100, -100);
        Due.is("top right", tree.nearest(200, 200, 0), 0);
        Due.is("bottom right", tree.nearest(200, -200, 0), 1);
        Due.is("top left", tree.nearest(-200, 200, 0), 2);
        Due.is("bottom left", tree.nearest(-200, -200, 0), 3);
        Due.is("right of the points", tree.nearest(101, -1, 0), 1);
        Due.is("above the points", tree.nearest(-1, 101, 0), 2);
    }

    private static void noSuchRank() {
        NearTree tree = Trees.with(0, 0, 1, 1, 2, 2);
        int[] outside = {-1, 3, 4, 23, 24, 256, 65536, MOST, -MOST, LEAST};
        for (int k : outside) {
            Due.is("nearest(0, 0, " + k + ")", tree.nearest(0, 0, k), NearTree.NONE);
        }
        tree.remove(0);
        Due.is("k 2 after a remove", tree.nearest(0, 0, 2), NearTree.NONE);
        Due.is("k 1 after a remove", tree.nearest(0, 0, 1), 2);
        NearTree full = Trees.row();
        Due.is("k 24 of 24", full.nearest(0, 0, 24), NearTree.NONE);
        Due.is("k -1 of 24", full.nearest(0, 0, -1), NearTree.NONE);
    }

    private static void noRanks() {
        NearTree tree = new NearTree();
        int[] ranks = {0, 1, -1, 23, 24, MOST, LEAST};
        for (int k : ranks) {
            Due.is("nearest(0, 0, " + k + ")", tree.nearest(0, 0, k), NearTree.NONE);
        }
        tree.add(0, 0);
        tree.remove(0);
        Due.is("all points removed", tree.nearest(0, 0, 0), NearTree.NONE);
    }

    private static void withinTheRim() {
        NearTree tree = Trees.with(3, 4, 0, 0, 0, 0, -4, 3);
        Due.is("at the rim", tree.within(0, 0, 25), 4);
        Due.is("one beyond", tree.within(0, 0, 24), 2);
        Due.is("a rim of 0", tree.within(0, 0, 0), 2);
        Due.is("a rim of 0 around nothing", tree.within(1, 0, 0), 0);
        Due.is("all 24", Trees.row().within(-92, 0, 184 * 184), 24);
        Due.is("all but one", Trees.row().within(-92, 0, 184 * 184 - 1), 23);
    }

    private static void withinAnyRadius() {
        NearTree tree = Trees.with(0, 0, 100, 100, -100, -100);
        int[] less = {-1, -2, -MOST, LEAST};
        for (int r2 : less) {
            Due.is("within(0, 0, " + r2 + ")", tree.within(0, 0, r2), 0);
        }
        Due.is("the greatest r2", tree.within(0, 0, MOST), 3);
        Due.is("the greatest r2 from a corner", tree.within(200, -200, MOST), 3);
        Due.is("the least r2 from a corner", tree.within(200, -200, LEAST), 0);
    }

    private static void withinOutside() {
        NearTree tree = Trees.with(0, 0);
        for (int far : Trees.outsideSpot()) {
            Due.is("within(" + far + ", 0, 9)", tree.within(far, 0, 9), NearTree.BAD);
            Due.is("within(0, " + far + ", greatest)", tree.within(0, far, MOST), NearTree.BAD);
            Due.is("within(0, " + far + ", least)", tree.within(0, far, LEAST), NearTree.BAD);
            Due.is("within(-200, " + far + ", 9)", tree.within(-200, far, 9), NearTree.BAD);
            Due.is("within(" + far + ", " + far + ", 9)", tree.within(far, far, 9), NearTree.BAD);
        }
        Due.is("BAD without points", new NearTree().within(201, 0, 9), NearTree.BAD);
    }

    private static void withinAtTheEdge() {
        NearTree tree = Trees.with(100, 100, 100, -100, -100, 100, -100, -100);
        int[] edges = {-200, 200};
        for (int x : edges) {
            for (int y : edges) {
                Due.is("within(" + x + ", " + y + ", 19999)", tree.within(x, y, 19999), 0);
                Due.is("within(" + x + ", " + y + ", 20000)", tree.within(x, y, 20000), 1);
                Due.is("within(" + x + ", " + y + ", 180000)", tree.within(x, y, 180000), 4);
            }
        }
    }

    private static void leftEdge() {
        NearTree tree = Trees.with(5, 0, -100, 0);
        Due.is("left is x", tree.inBox(5, 10, -1, 1), 1);
        Due.is("left is one more", tree.inBox(6, 10, -1, 1), 0);
        Due.is("left is one less", tree.inBox(4, 10, -1, 1), 1);
        Due.is("left is the least x", tree.inBox(-100, 10, -1, 1), 2);
        Due.is("left is past the least x", tree.inBox(-99, 10, -1, 1), 1);
    }

    private static void rightEdge() {
        NearTree tree = Trees.with(5, 0, 100, 0);
        Due.is("right is x", tree.inBox(0, 5, -1, 1), 1);
        Due.is("right is one less", tree.inBox(0, 4, -1, 1), 0);
        Due.is("right is one more", tree.inBox(0, 6, -1, 1), 1);
        Due.is("right is the greatest x", tree.inBox(0, 100, -1, 1), 2);
        Due.is("right is before the greatest x", tree.inBox(0, 99, -1, 1), 1);
    }

    private static void bottomEdge() {
        NearTree tree = Trees.with(0, 5, 0, -100);
        Due.is("bottom is y", tree.inBox(-1, 1, 5, 10), 1);
        Due.is("bottom is one more", tree.inBox(-1, 1, 6, 10), 0);
        Due.is("bottom is one less", tree.inBox(-1, 1, 4, 10), 1);
        Due.is("bottom is the least y", tree.inBox(-1, 1, -100, 10), 2);
        Due.is("bottom is past the least y", tree.inBox(-1, 1, -99, 10), 1);
    }

    private static void topEdge() {
        NearTree tree = Trees.with(0, 5, 0, 100);
        Due.is("top is y", tree.inBox(-1, 1, 0, 5), 1);
        Due.is("top is one less", tree.inBox(-1, 1, 0, 4), 0);
        Due.is("top is one more", tree.inBox(-1, 1, 0, 6), 1);
        Due.is("top is the greatest y", tree.inBox(-1, 1, 0, 100), 2);
        Due.is("top is before the greatest y", tree.inBox(-1, 1, 0, 99), 1);
    }

    private static void bothMustHold() {
        NearTree tree = Trees.with(0, 0, 0, 50, 50, 0, 50, 50);
        Due.is("one of the four", tree.inBox(0, 0, 0, 0), 1);
        Due.is("the columns alone", tree.inBox(0, 0, LEAST, MOST), 2);
        Due.is("the rows alone", tree.inBox(LEAST, MOST, 50, 50), 2);
        Due.is("columns without rows", tree.inBox(LEAST, MOST, 1, 49), 0);
        Due.is("rows without columns", tree.inBox(1, 49, LEAST, MOST), 0);
        Due.is("an empty place is not at (0, 0)", Trees.with(9, 9).inBox(0, 0, 0, 0), 0);
    }

    private static void anyBox() {
        NearTree tree = Trees.with(100, 100, -100, -100, 0, 0);
        Due.is("everything", tree.inBox(LEAST, MOST, LEAST, MOST), 3);
        Due.is("least left", tree.inBox(LEAST, 0, -100, 100), 2);
        Due.is("greatest right", tree.inBox(0, MOST, -100, 100), 2);
        Due.is("least bottom", tree.inBox(-100, 100, LEAST, 0), 2);
        Due.is("greatest top", tree.inBox(-100, 100, 0, MOST), 2);
        Due.is("beyond on the right", tree.inBox(101, MOST, LEAST, MOST), 0);
        Due.is("beyond on the left", tree.inBox(LEAST, -101, LEAST, MOST), 0);
        Due.is("beyond above", tree.inBox(LEAST, MOST, 101, MOST), 0);
        Due.is("beyond below", tree.inBox(LEAST, MOST, LEAST, -101), 0);
        Due.is("numbers far outside are no BAD", tree.inBox(-201, 201, -65536, 65536), 3);
        Due.is("the greatest as a box", tree.inBox(MOST, MOST, MOST, MOST), 0);
        Due.is("the least as a box", tree.inBox(LEAST, LEAST, LEAST, LEAST), 0);
        Due.is("all 24", Trees.row().inBox(LEAST, MOST, LEAST, MOST), 24);
    }

    private static void turnedBox() {
        NearTree tree = Trees.with(1, 1, 2, 2, 3, 3);
        Due.is("left past right", tree.inBox(3, 1, 1, 3), 0);
        Due.is("bottom past top", tree.inBox(1, 3, 3, 1), 0);
        Due.is("left just past right", tree.inBox(2, 1, 1, 3), 0);
        Due.is("bottom just past top", tree.inBox(1, 3, 2, 1), 0);
        Due.is("both", tree.inBox(3, 1, 3, 1), 0);
        Due.is("left past right, as far as it goes", tree.inBox(MOST, LEAST, LEAST, MOST), 0);
        Due.is("bottom past top, as far as it goes", tree.inBox(LEAST, MOST, MOST, LEAST), 0);
    }

    private static void differentPlaces() {
        Due.is("two at the same spot", Trees.heap(2, 100, -100).closest(), 0);
        Due.is("no point is a pair with itself", Trees.with(0, 0, 3, 4).closest(), 25);
        NearTree tree = Trees.with(0, 0, 3, 4, 3, 4);
        Due.is("the same spot", tree.closest(), 0);
        tree.remove(1);
        Due.is("the same spot, but one is gone", tree.closest(), 25);
    }

    private static void smallestDistance() {
        Due.is("the greatest that there is", Trees.with(-100, -100, 100, 100).closest(), 80000);
        Due.is("not the first pair", Trees.with(0, 0, 10, 0, 10, 1).closest(), 1);
        NearTree last = Trees.row();
        last.move(23, 87, 0);
        Due.is("places 22 and 23", last.closest(), 9);
        NearTree ends = Trees.row();
        ends.move(23, -92, 1);
        Due.is("places 0 and 23", ends.closest(), 1);
    }

    private static void fewerThanTwo() {
        NearTree tree = new NearTree();
        Due.is("no point", tree.closest(), NearTree.NONE);
        tree.add(0, 0);
        Due.is("one point", tree.closest(), NearTree.NONE);
        tree.add(0, 0);
        Due.is("two points", tree.closest(), 0);
        tree.remove(0);
        Due.is("one point left", tree.closest(), NearTree.NONE);
        tree.remove(1);
        Due.is("no point left", tree.closest(), NearTree.NONE);
        NearTree refused = Trees.with(0, 0);
        refused.add(101, 0);
        Due.is("a refused point is none", refused.closest(), NearTree.NONE);
    }

    private static void badBeforeNone() {
        NearTree tree = Trees.with(0, 0);
        int[] ranks = {-1, 1, 24, MOST, LEAST};
        for (int k : ranks) {
            Due.is("nearest(201, 0, " + k + ")", tree.nearest(201, 0, k), NearTree.BAD);
            Due.is("nearest(0, -201, " + k + ")", tree.nearest(0, -201, k), NearTree.BAD);
            Due.is("nearest(200, -200, " + k + ")", tree.nearest(200, -200, k), NearTree.NONE);
        }
        Due.is("BAD without points", new NearTree().nearest(-201, 0, 0), NearTree.BAD);
        Due.is("BAD without points", new NearTree().nearest(0, 201, 0), NearTree.BAD);
    }

    private static void questionsChangeNothing() {
        NearTree tree = Trees.with(1, 1, 2, 2, 50, 50);
        tree.nearest(7, 7, 1);
        tree.nearest(201, 7, 1);
        tree.nearest(7, 7, 3);
        tree.within(7, 7, MOST);
        tree.within(7, 201, 1);
        tree.inBox(LEAST, MOST, LEAST, MOST);
        tree.closest();
        Trees.isJust("after questions", tree, 1, 1, 2, 2, 50, 50);
        Due.is("the next place is the same", tree.add(7, 7), 3);
    }

    // The same questions after each kind of change; an answer kept from before it would be seen.
    private static void questionsStandAlone() {
        NearTree tree = Trees.with(10, 0, 20, 0);
        answers("two points", tree, new int[] {0, 1, 1, 100});
        tree.add(0, 3);
        answers("after an add", tree, new int[] {2, 2, 2, 100});
        tree.move(0, 0, 1);
        answers("after a move", tree, new int[] {0, 2, 2, 4});
        tree.move(1, 1, 3);
        answers("after a move beside another", tree, new int[] {0, 3, 3, 1});
        tree.remove(0);
        answers("after a remove", tree, new int[] {2, 2, 2, 1});
        tree.remove(2);
        answers("after another remove", tree, new int[] {1, 1, 1, NearTree.NONE});
        tree.remove(1);
        answers("after the last remove", tree, new int[] {NearTree.NONE, 0, 0, NearTree.NONE});
    }

    private static void answers(String when, NearTree tree, int[] due) {
        Due.is(when + ": nearest", tree.nearest(0, 0, 0), due[0]);
        Due.is(when + ": within", tree.within(0, 0, 100), due[1]);
        Due.is(when + ": inBox", tree.inBox(0, 10, 0, 10), due[2]);
        Due.is(when + ": closest", tree.closest(), due[3]);
    }
}
