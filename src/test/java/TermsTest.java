import java.util.function.ToIntFunction;

// "What it is" and "Terms": a test for each sentence, or for each boundary in it.
public final class TermsTest {
    // All the spots with whole coordinates that have a distance of 25 from (0, 0), in no order.
    private static final int[] CIRCLE = {
        3, 4, -5, 0, 4, -3, 0, 5, -3, -4, 5, 0, -4, 3, 0, -5, 3, -4, -3, 4, 4, 3, -4, -3};

    public static void main(String[] args) {
        Due.sentence("used for at most 512 calls after it has been made", TermsTest::the512thCall);
        Due.sentence("at most 512 calls, refused ones among them", TermsTest::the512thCallAfterRefusedOnes);
        Due.sentence("at most 512 calls, all of them the same", TermsTest::theSameCall512Times);
        Due.sentence("up to 24 points, in places 0 to 23", TermsTest::places);
        Due.sentence("a point has whole x and y from -100 to 100", TermsTest::coordinates);
        Due.sentence("several points may be at the same spot", TermsTest::sameSpot);
        Due.sentence("the distance is always the square of their distance", TermsTest::distances);
        Due.sentence("ranked by distance, the nearer first", TermsTest::nearerFirst);
        Due.sentence("points with equal distance by their places, the smaller first", TermsTest::equalDistances);
        Due.sentence("dense iff at least m points", TermsTest::atLeastM);
        Due.sentence("dense: itself counted", TermsTest::itselfCounted);
        Due.sentence("dense: a distance of at most r2 from it", TermsTest::denseAtTheRim);
        Due.sentence("two dense points whose distance is at most r2", TermsTest::connectedAtTheRim);
        Due.sentence("and so on from one to the next", TermsTest::fromOneToTheNext);
        Due.sentence("a cluster is a largest set of dense points", TermsTest::onlyDensePointsConnect);
        Due.sentence("a cluster is of dense points, whatever their places", TermsTest::aBridgeInAnyPlace);
        Due.sentence("fringe iff some dense point has a distance of at most r2 from it", TermsTest::fringeAtTheRim);
        Due.sentence("fringe iff some dense point: a fringe point is none", TermsTest::fringeOfAFringe);
        Due.sentence("a point that is not dense is a fringe point or noise", TermsTest::denseIsNoNoise);
        Due.end();
    }

    private static void the512thCall() {
        NearTree tree = Trees.row();
        for (int call = 25; call <= 510; call += 2) {
            int place = call % Trees.PLACES;
            Due.is("call " + call + ", remove", tree.remove(place), 23);
            Due.is("call " + (call + 1) + ", add", tree.add(8 * place - 92, 0), place);
        }
        Due.is("call 511, add", tree.add(0, 0), NearTree.FULL);
        Due.is("call 512, nearest", tree.nearest(200, 0, 0), 23);
    }

    private static void the512thCallAfterRefusedOnes() {
        NearTree tree = new NearTree();
        for (int call = 1; call <= 511; call++) {
            int got = call % 2 == 0 ? tree.add(101, 0) : tree.remove(0);
            Due.is("call " + call, got, NearTree.BAD);
        }
        Due.is("call 512, add", tree.add(0, 0), 0);
    }

    private static void theSameCall512Times() {
        isSame("move", Trees.with(0, 0), tree -> tree.move(0, 0, 0), 0);
        isSame("size", Trees.with(0, 0), NearTree::size, 1);
        isSame("nearest", Trees.with(0, 0), tree -> tree.nearest(9, 9, 0), 0);
        isSame("within", Trees.with(0, 0), tree -> tree.within(0, 0, 0), 1);
        isSame("inBox", Trees.with(0, 0), tree -> tree.inBox(0, 0, 0, 0), 1);
        isSame("closest", Trees.with(0, 0), NearTree::closest, NearTree.NONE);
        isSame("clusters", Trees.with(0, 0), tree -> tree.clusters(0, 1), 1);
        isSame("clusterOf", Trees.with(0, 0), tree -> tree.clusterOf(0, 0, 1), 0);
        isSame("noise", Trees.with(0, 0), tree -> tree.noise(0, 2), 1);
    }

    // The call that has put the point into the object is the first of the 512.
    private static void isSame(String name, NearTree tree, ToIntFunction<NearTree> question, int due) {
        for (int call = 2; call <= 512; call++) {
            Due.is(name + " as call " + call, question.applyAsInt(tree), due);
        }
    }

    private static void places() {
        NearTree tree = new NearTree();
        for (int place = 0; place < 24; place++) {
            Due.is("add", tree.add(place, -place), place);
        }
        Due.is("a 25th point", tree.add(0, 0), NearTree.FULL);
        Due.is("there is no place 24", tree.move(24, 0, 0), NearTree.BAD);
        Due.is("there is no place -1", tree.move(-1, 0, 0), NearTree.BAD);
        Due.is("place 23 is one like the others", tree.move(23, 23, -22), 1);
        Due.is("place 0 is one like the others", tree.move(0, 0, 1), 1);
    }

    private static void coordinates() {
        int[] edges = {-100, -99, 0, 99, 100};
        for (int x : edges) {
            for (int y : edges) {
                NearTree tree = new NearTree();
                Due.is("add(" + x + ", " + y + ")", tree.add(x, y), 0);
                Due.is("it is just there", tree.inBox(x, x, y, y), 1);
            }
        }
        int[] beyond = {-101, 101};
        for (int far : beyond) {
            Due.is("no point has x " + far, new NearTree().add(far, 0), NearTree.BAD);
            Due.is("no point has y " + far, new NearTree().add(0, far), NearTree.BAD);
            Due.is("no point gets x " + far, Trees.with(0, 0).move(0, far, 0), NearTree.BAD);
            Due.is("no point gets y " + far, Trees.with(0, 0).move(0, 0, far), NearTree.BAD);
        }
    }

    private static void sameSpot() {
        NearTree tree = Trees.heap(24, -100, 100);
        Due.is("all of them count", tree.size(), 24);
        Due.is("all of them are there", tree.within(-100, 100, 0), 24);
        Due.is("take one", tree.remove(11), 23);
        Due.is("the others stay", tree.inBox(-100, -100, 100, 100), 23);
        Due.is("move one away", tree.move(12, 0, 0), 20000);
        Due.is("the others stay", tree.inBox(-100, -100, 100, 100), 22);
        Due.is("move it back to them", tree.move(12, -100, 100), 20000);
        Due.is("it is with the others", tree.inBox(-100, -100, 100, 100), 23);
    }

    private static void distances() {
        NearTree tree = Trees.with(-100, -100, 100, 100);
        Due.is("the greatest of two points", tree.closest(), 80000);
        Due.is("the greatest radius that parts them", tree.clusters(79999, 1), 2);
        Due.is("the least radius that joins them", tree.clusters(80000, 1), 1);
        Due.is("the greatest of a spot and a point", tree.within(200, 200, 180000), 2);
        Due.is("one less", tree.within(200, 200, 179999), 1);
        Due.is("the greatest way", tree.move(0, 100, 100), 80000);
        Due.is("the least distance", tree.closest(), 0);
        Due.is("both numbers count", tree.move(0, 97, 96), 25);
        Due.is("the sign of a difference does not", tree.move(0, 100, 92), 25);
    }

    private static void nearerFirst() {
        NearTree tree = Trees.with(6, 0, 4, 3, 0, 5, 1, 4, 100, 100, -100, -100);
        int[] due = {3, 1, 2, 0, 4, 5};
        for (int k = 0; k < due.length; k++) {
            Due.is("nearest(0, 0, " + k + ")", tree.nearest(0, 0, k), due[k]);
        }
        Due.is("from the farthest spot, the farthest point", tree.nearest(200, 200, 5), 5);
    }

    private static void equalDistances() {
        NearTree tree = Trees.with(CIRCLE);
        tree.add(0, 0);
        tree.add(-5, -1);
        Due.is("the nearer is before them all", tree.nearest(0, 0, 0), 12);
        for (int k = 1; k <= 12; k++) {
            Due.is("equal distances, k " + k, tree.nearest(0, 0, k), k - 1);
        }
        Due.is("the farther is after them all", tree.nearest(0, 0, 13), 13);
        tree.remove(0);
        tree.remove(5);
        Due.is("without place 0", tree.nearest(0, 0, 1), 1);
        tree.add(3, 4);
        Due.is("the newest point has the smallest place", tree.nearest(0, 0, 1), 0);
        Due.is("an empty place is passed over", tree.nearest(0, 0, 6), 6);
        NearTree heap = Trees.heap(24, 7, 7);
        for (int k = 0; k < 24; k++) {
            Due.is("at the spot itself, k " + k, heap.nearest(7, 7, k), k);
        }
    }

    private static void atLeastM() {
        NearTree tree = Trees.with(0, 0, 1, 0, 0, 1, 50, 50);
        Due.is("one less than there are", tree.clusterOf(0, 2, 2), 0);
        Due.is("just as many as there are", tree.clusterOf(0, 2, 3), 0);
        Due.is("one more than there are", tree.clusterOf(0, 2, 4), NearTree.NONE);
        NearTree full = Trees.row();
        Due.is("m 24 of 24", full.clusterOf(23, Trees.MOST, 24), 0);
        Due.is("m 25 of 24", full.clusterOf(23, Trees.MOST, 25), NearTree.NONE);
    }

    private static void itselfCounted() {
        NearTree lone = Trees.with(9, -9);
        Due.is("a lone point, m 0", lone.clusters(0, 0), 1);
        Due.is("a lone point, m 1", lone.clusters(0, 1), 1);
        Due.is("a lone point, m 2", lone.clusters(0, 2), 0);
        NearTree two = Trees.heap(2, 9, -9);
        Due.is("it counts once, m 2", two.clusters(0, 2), 1);
        Due.is("it counts once, m 3", two.clusters(0, 3), 0);
        // Its distance from itself is 0, and that is more than -1.
        Due.is("r2 -1, m 1", lone.clusters(-1, 1), 0);
        Due.is("r2 -1, m 0", lone.clusters(-1, 0), 1);
    }

    private static void denseAtTheRim() {
        NearTree tree = Trees.with(0, 0, 3, 4);
        Due.is("at the rim", tree.clusterOf(1, 25, 2), 0);
        Due.is("one beyond", tree.clusterOf(1, 24, 2), NearTree.NONE);
        NearTree heap = Trees.heap(3, 0, 0);
        Due.is("a rim of 0", heap.clusterOf(2, 0, 3), 0);
        Due.is("a rim of -1", heap.clusterOf(2, -1, 3), NearTree.NONE);
    }

    private static void connectedAtTheRim() {
        // With an m of 1 or less all are dense whatever the rim is, so it is the connection alone that is seen here.
        NearTree tree = Trees.with(0, 0, 3, 4);
        Due.is("at the rim", tree.clusters(25, 1), 1);
        Due.is("one beyond", tree.clusters(24, 1), 2);
        NearTree heap = Trees.heap(3, 0, 0);
        Due.is("a rim of 0", heap.clusters(0, 0), 1);
        Due.is("a rim of -1", heap.clusters(-1, 0), 3);
    }

    private static void fromOneToTheNext() {
        Due.is("a row of 24", Trees.row().clusters(64, 2), 1);
        Due.is("a row of 24 in another order", Trees.shuffledRow().clusters(64, 2), 1);
        NearTree broken = Trees.row();
        broken.move(12, 4, 1);
        Due.is("one link too long", broken.clusters(64, 1), 3);
        broken.remove(12);
        Due.is("one link gone", broken.clusters(64, 1), 2);
        NearTree late = Trees.with(0, 0, 8, 0, 4, 0);
        Due.is("the last place joins the first two", late.clusters(16, 1), 1);
    }

    private static void onlyDensePointsConnect() {
        // (0, 0) has three points near it, every other point has four or more.
        NearTree thin = Trees.with(-3, 0, -3, 0, -3, 0, -2, 0, 0, 0, 2, 0, 3, 0, 3, 0, 3, 0);
        Due.is("the middle is fringe", thin.clusters(4, 4), 2);
        Due.is("the middle has no cluster", thin.clusterOf(4, 4, 4), NearTree.NONE);
        Due.is("the middle is dense", thin.clusters(4, 3), 1);
        Due.is("then it is in the cluster", thin.clusterOf(4, 4, 3), 0);
        Due.is("a dense point alone is a cluster", Trees.with(0, 0, 2, 0, 4, 0).clusterOf(1, 4, 3), 1);
    }

    private static void aBridgeInAnyPlace() {
        // Two groups of four, and one point between them that has just one of each near it.
        int[] groups = {-4, 4, -5, 5, -5, 5, -5, 5};
        for (int bridge = 0; bridge <= groups.length; bridge++) {
            NearTree tree = new NearTree();
            for (int place = 0; place <= groups.length; place++) {
                int member = place < bridge ? place : place - 1;
                tree.add(place == bridge ? 0 : groups[member], 0);
            }
            String where = "bridge in place " + bridge;
            Due.is(where + ", fringe", tree.clusters(16, 4), 2);
            Due.is(where + ", its cluster", tree.clusterOf(bridge, 16, 4), NearTree.NONE);
            Due.is(where + ", noise", tree.noise(16, 4), 0);
            Due.is(where + ", dense", tree.clusters(16, 3), 1);
            Due.is(where + ", its cluster then", tree.clusterOf(bridge, 16, 3), 0);
        }
    }

    private static void fringeAtTheRim() {
        // The heap is dense in both questions; whether it reaches (3, 4) is what they ask.
        NearTree tree = Trees.with(0, 0, 0, 0, 0, 0, 0, 0, -1, 0, 3, 4);
        Due.is("at the rim of a heap", tree.noise(25, 6), 0);
        Due.is("one beyond the rim of a heap", tree.noise(24, 5), 1);
        NearTree row = Trees.with(0, 0, 5, 0, 10, 0);
        Due.is("at the rim on both sides", row.noise(25, 3), 0);
        Due.is("one beyond", row.noise(24, 3), 3);
        row.move(0, 0, 1);
        Due.is("one of them is too far, and none is dense", row.noise(25, 3), 3);
        Due.is("one of them is too far", row.noise(25, 2), 1);
    }

    private static void fringeOfAFringe() {
        NearTree tail = Trees.with(0, 0, 0, 0, 0, 0, 0, 0, 1, 0, 2, 0, 3, 0);
        Due.is("(2, 0) is fringe, (3, 0) is noise", tail.noise(1, 5), 1);
        Due.is("(1, 0) alone is dense", tail.noise(1, 6), 1);
        Due.is("no dense point, no fringe", tail.noise(1, 7), 7);
    }

    private static void denseIsNoNoise() {
        // With a negative r2 a dense point is not near any dense point, not even itself.
        Due.is("dense, near no dense point", Trees.with(1, 1, 50, 50).noise(-1, 0), 0);
        Due.is("dense, near itself alone", Trees.with(1, 1, 50, 50).noise(0, 1), 0);
        Due.is("fringe is no noise", Trees.with(0, 0, 1, 0, -1, 0).noise(1, 3), 0);
        Due.is("neither dense nor fringe", Trees.with(1, 1, 50, 50).noise(0, 2), 2);
    }
}
