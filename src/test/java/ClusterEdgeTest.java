// Promises 10 to 12, and 13 for clusterOf: a test for each sentence, or for each boundary in it.
public final class ClusterEdgeTest {
    private static final int LEAST = Trees.LEAST;
    private static final int MOST = Trees.MOST;

    public static void main(String[] args) {
        Due.sentence("10: the number of clusters, none to 24", ClusterEdgeTest::numberOfClusters);
        Due.sentence("10: r2 may be any int", ClusterEdgeTest::clustersForAnyRadius);
        Due.sentence("10: m may be any int", ClusterEdgeTest::clustersForAnyNumber);
        Due.sentence("11: the smallest place in the same cluster", ClusterEdgeTest::smallestPlace);
        Due.sentence("11: the smallest place may be its own", ClusterEdgeTest::ownPlace);
        Due.sentence("11: NONE if that point is not dense", ClusterEdgeTest::notDense);
        Due.sentence("11: BAD if there is no point in the place", ClusterEdgeTest::noPoint);
        Due.sentence("11: BAD if there is no such place", ClusterEdgeTest::noPlace);
        Due.sentence("11: r2 and m may be any ints", ClusterEdgeTest::clusterOfForAnyNumbers);
        Due.sentence("12: the number of noise points, none to 24", ClusterEdgeTest::numberOfNoisePoints);
        Due.sentence("12: a dense point in any place saves from noise", ClusterEdgeTest::savedByAnyPlace);
        Due.sentence("12: r2 and m may be any ints", ClusterEdgeTest::noiseForAnyNumbers);
        Due.sentence("13: clusterOf: BAD is tested before NONE", ClusterEdgeTest::badBeforeNone);
        Due.sentence("10 to 12: a question changes nothing", ClusterEdgeTest::questionsChangeNothing);
        Due.sentence("10 to 12: each question is answered anew", ClusterEdgeTest::questionsStandAlone);
        Due.sentence("10 to 12: each question is answered anew after a change", ClusterEdgeTest::questionsAfterChanges);
        Due.end();
    }

    private static void numberOfClusters() {
        Due.is("no points", new NearTree().clusters(5, 1), 0);
        Due.is("no points, m 0", new NearTree().clusters(5, 0), 0);
        Due.is("one point", Trees.with(0, 0).clusters(5, 1), 1);
        NearTree full = Trees.row();
        Due.is("24 points in one", full.clusters(64, 1), 1);
        Due.is("24 points apart", full.clusters(63, 1), 24);
        Due.is("24 points, none dense", full.clusters(63, 2), 0);
        full.remove(23);
        Due.is("23 points apart", full.clusters(63, 1), 23);
        full.remove(0);
        Due.is("22 points apart", full.clusters(63, 0), 22);
    }

    private static void clustersForAnyRadius() {
        NearTree tree = Trees.with(100, 100, 100, 100, -100, -100);
        int[] less = {-1, -2, -MOST, LEAST};
        for (int r2 : less) {
            Due.is("r2 " + r2 + ", m 0", tree.clusters(r2, 0), 3);
            Due.is("r2 " + r2 + ", m 1", tree.clusters(r2, 1), 0);
        }
        Due.is("r2 0, m 1", tree.clusters(0, 1), 2);
        Due.is("r2 0, m 2", tree.clusters(0, 2), 1);
        Due.is("the greatest r2, m 3", tree.clusters(MOST, 3), 1);
        Due.is("the greatest r2, m 4", tree.clusters(MOST, 4), 0);
    }

    private static void clustersForAnyNumber() {
        NearTree tree = Trees.with(5, 5, 5, 5, 6, 5);
        int[] less = {1, 0, -1, -MOST, LEAST};
        for (int m : less) {
            Due.is("r2 0, m " + m, tree.clusters(0, m), 2);
            Due.is("the greatest r2, m " + m, tree.clusters(MOST, m), 1);
        }
        int[] more = {4, 24, 25, 256, 65536, MOST};
        for (int m : more) {
            Due.is("the greatest r2, m " + m, tree.clusters(MOST, m), 0);
        }
        Due.is("the least of both", tree.clusters(LEAST, LEAST), 3);
        Due.is("the greatest of both", tree.clusters(MOST, MOST), 0);
        Due.is("the least r2, the greatest m", tree.clusters(LEAST, MOST), 0);
    }

    private static void smallestPlace() {
        NearTree chain = Trees.shuffledRow();
        for (int place = 0; place < 24; place++) {
            Due.is("shuffled row, place " + place, chain.clusterOf(place, 64, 2), 0);
        }
        NearTree row = Trees.row();
        row.remove(11);
        for (int place = 0; place < 24; place++) {
            int due = place < 11 ? 0 : 12;
            if (place != 11) {
                Due.is("parted row, place " + place, row.clusterOf(place, 64, 1), due);
            }
        }
        NearTree tree = Trees.with(0, 0, 1, 0, 2, 0, 3, 0);
        Due.is("a fringe point beside it gives no name", tree.clusterOf(1, 1, 3), 1);
        Due.is("a fringe point farther off gives no name", tree.clusterOf(2, 1, 3), 1);
        tree.remove(0);
        Due.is("a removed point gives no name", tree.clusterOf(3, 1, 1), 1);
    }

    private static void ownPlace() {
        NearTree row = Trees.row();
        for (int place = 0; place < 24; place++) {
            Due.is("alone, place " + place, row.clusterOf(place, 63, 1), place);
        }
        Due.is("first of its cluster", Trees.with(50, 50, 0, 0, 0, 0).clusterOf(1, 0, 2), 1);
    }

    private static void notDense() {
        NearTree tree = Trees.with(0, 0, 2, 0, 4, 0, 50, 50);
        Due.is("dense", tree.clusterOf(1, 4, 3), 1);
        Due.is("fringe", tree.clusterOf(0, 4, 3), NearTree.NONE);
        Due.is("fringe on the other side", tree.clusterOf(2, 4, 3), NearTree.NONE);
        Due.is("noise", tree.clusterOf(3, 4, 3), NearTree.NONE);
        NearTree row = Trees.row();
        for (int place = 0; place < 24; place++) {
            Due.is("nothing is dense, place " + place, row.clusterOf(place, 63, 2), NearTree.NONE);
        }
    }

    private static void noPoint() {
        NearTree tree = Trees.with(0, 0, 1, 0);
        for (int place = 2; place < 24; place++) {
            Due.is("never used, place " + place, tree.clusterOf(place, 4, 1), NearTree.BAD);
            Due.is("never used, m 0, place " + place, tree.clusterOf(place, -1, 0), NearTree.BAD);
        }
        tree.remove(0);
        Due.is("removed before", tree.clusterOf(0, 4, 1), NearTree.BAD);
        Due.is("no points", new NearTree().clusterOf(0, 4, 1), NearTree.BAD);
    }

    private static void noPlace() {
        NearTree tree = Trees.row();
        for (int place : Trees.outsidePlace()) {
            Due.is("clusterOf " + place, tree.clusterOf(place, 64, 1), NearTree.BAD);
            Due.is("the greatest r2, clusterOf " + place, tree.clusterOf(place, MOST, LEAST), NearTree.BAD);
        }
    }

    private static void clusterOfForAnyNumbers() {
        NearTree tree = Trees.with(100, 100, -100, -100);
        Due.is("the greatest r2, the least m", tree.clusterOf(1, MOST, LEAST), 0);
        Due.is("the greatest r2, m 2", tree.clusterOf(1, MOST, 2), 0);
        Due.is("the greatest of both", tree.clusterOf(1, MOST, MOST), NearTree.NONE);
        Due.is("the least of both", tree.clusterOf(1, LEAST, LEAST), 1);
        Due.is("the least r2, the greatest m", tree.clusterOf(1, LEAST, MOST), NearTree.NONE);
        Due.is("r2 -1, m 0", tree.clusterOf(1, -1, 0), 1);
        Due.is("r2 -1, m 1", tree.clusterOf(1, -1, 1), NearTree.NONE);
        Due.is("r2 0, m -1", tree.clusterOf(1, 0, -1), 1);
    }

    private static void numberOfNoisePoints() {
        Due.is("no points", new NearTree().noise(5, 1), 0);
        Due.is("no points, the greatest m", new NearTree().noise(5, MOST), 0);
        Due.is("one point, m 1", Trees.with(0, 0).noise(5, 1), 0);
        Due.is("one point, m 2", Trees.with(0, 0).noise(5, 2), 1);
        NearTree full = Trees.row();
        Due.is("all 24", full.noise(63, 2), 24);
        Due.is("none of 24", full.noise(63, 1), 0);
        Due.is("the ends are fringe", full.noise(64, 3), 0);
        full.remove(0);
        full.remove(23);
        Due.is("all 22 that are left", full.noise(63, 2), 22);
    }

    private static void savedByAnyPlace() {
        Due.is("only place 0 is dense", Trees.with(0, 0, 1, 0, -1, 0).noise(1, 3), 0);
        NearTree last = Trees.row();
        last.move(0, 92, 10);
        last.move(1, 92, -10);
        Due.is("only place 23 is dense", last.noise(100, 4), 20);
        last.remove(23);
        Due.is("a removed point saves none", last.noise(100, 3), 2);
    }

    private static void noiseForAnyNumbers() {
        NearTree tree = Trees.with(100, 100, -100, -100, 0, 0);
        int[] less = {-1, -2, -MOST, LEAST};
        for (int edge : less) {
            Due.is("m 0, r2 " + edge, tree.noise(edge, 0), 0);
            Due.is("m 1, r2 " + edge, tree.noise(edge, 1), 3);
            Due.is("r2 0, m " + edge, tree.noise(0, edge), 0);
        }
        Due.is("the greatest r2, m 3", tree.noise(MOST, 3), 0);
        Due.is("the greatest r2, m 4", tree.noise(MOST, 4), 3);
        Due.is("the greatest of both", tree.noise(MOST, MOST), 3);
        Due.is("the least of both", tree.noise(LEAST, LEAST), 0);
        Due.is("the least r2, the greatest m", tree.noise(LEAST, MOST), 3);
        Due.is("the greatest r2, the least m", tree.noise(MOST, LEAST), 0);
    }

    private static void badBeforeNone() {
        NearTree tree = Trees.with(0, 0);
        Due.is("an empty place, nothing is dense", tree.clusterOf(1, 0, MOST), NearTree.BAD);
        Due.is("an empty place, a negative r2", tree.clusterOf(23, -1, 1), NearTree.BAD);
        Due.is("no such place, nothing is dense", tree.clusterOf(24, 0, 2), NearTree.BAD);
        Due.is("no such place, a negative r2", tree.clusterOf(-1, LEAST, 1), NearTree.BAD);
        Due.is("a point that is not dense", tree.clusterOf(0, 0, 2), NearTree.NONE);
    }

    private static void questionsChangeNothing() {
        NearTree tree = Trees.with(1, 1, 2, 2, 50, 50);
        tree.clusters(MOST, LEAST);
        tree.clusterOf(1, 2, 2);
        tree.clusterOf(2, 2, 2);
        tree.clusterOf(24, 2, 2);
        tree.noise(2, 2);
        tree.noise(LEAST, MOST);
        Trees.isJust("after questions", tree, 1, 1, 2, 2, 50, 50);
        Due.is("the next place is the same", tree.add(7, 7), 3);
    }

    // An earlier question with other numbers must leave no trace.
    private static void questionsStandAlone() {
        NearTree tree = Trees.with(50, 50, 0, 0, 1, 0, 2, 0);
        Due.is("three in one", tree.clusters(1, 1), 2);
        Due.is("all apart", tree.clusters(0, 1), 4);
        Due.is("nothing is dense", tree.clusters(0, 2), 0);
        Due.is("all noise", tree.noise(0, 2), 4);
        Due.is("three in one again", tree.clusterOf(3, 1, 1), 1);
        Due.is("one noise", tree.noise(1, 2), 1);
        Due.is("m alone is another", tree.noise(1, 4), 4);
        Due.is("m alone is another, in a cluster", tree.clusterOf(3, 1, 2), 1);
        Due.is("m alone is another, in none", tree.clusterOf(3, 1, 3), NearTree.NONE);
    }

    // The same questions after each kind of change; an answer kept from before it would be seen.
    private static void questionsAfterChanges() {
        NearTree tree = Trees.with(0, 0, 5, 0, 10, 0);
        answers("three apart", tree, new int[] {0, NearTree.NONE, 3});
        tree.add(5, 1);
        answers("after an add", tree, new int[] {1, 1, 2});
        tree.move(0, 5, -1);
        answers("after a move beside it", tree, new int[] {1, 0, 1});
        tree.move(0, 10, 1);
        answers("after a move beside another", tree, new int[] {2, 1, 0});
        tree.remove(3);
        answers("after a remove", tree, new int[] {1, NearTree.NONE, 1});
        tree.add(5, 1);
        answers("after another add", tree, new int[] {2, 1, 0});
        tree.remove(1);
        answers("after its own remove", tree, new int[] {1, NearTree.BAD, 1});
    }

    private static void answers(String when, NearTree tree, int[] due) {
        Due.is(when + ": clusters", tree.clusters(1, 2), due[0]);
        Due.is(when + ": clusterOf", tree.clusterOf(1, 1, 2), due[1]);
        Due.is(when + ": noise", tree.noise(1, 2), due[2]);
    }
}
