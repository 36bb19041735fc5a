// One method for each promise: ordinary inputs, the edges that the document names, and wrong inputs.
public final class PromiseTest {
    private static final int LEAST = Integer.MIN_VALUE;
    private static final int MOST = Integer.MAX_VALUE;

    public static void main(String[] args) {
        promise1NewObject();
        promise2Add();
        promise2AddWhenFull();
        promise3Remove();
        promise4Move();
        promise5Size();
        promise6Nearest();
        promise6NearestTies();
        promise7Within();
        promise8InBox();
        promise9Closest();
        promise10Clusters();
        promise10ClustersEdges();
        promise11ClusterOf();
        promise12Noise();
        promise13Order();
        Due.end();
    }

    private static NearTree withPoints(int... coordinates) {
        NearTree tree = new NearTree();
        for (int i = 0; i < coordinates.length; i += 2) {
            tree.add(coordinates[i], coordinates[i + 1]);
        }
        return tree;
    }

    // Place p is at (8p - 92, 0), so each neighbour in the row has a distance of 64.
    private static NearTree fullTree() {
        NearTree tree = new NearTree();
        for (int place = 0; place < 24; place++) {
            Due.is("add number " + place, tree.add(8 * place - 92, 0), place);
        }
        return tree;
    }

    private static void promise1NewObject() {
        NearTree tree = new NearTree();
        Due.is("1: size", tree.size(), 0);
        Due.is("1: closest", tree.closest(), NearTree.NONE);
        Due.is("1: nearest", tree.nearest(0, 0, 0), NearTree.NONE);
        Due.is("1: within", tree.within(0, 0, MOST), 0);
        Due.is("1: inBox", tree.inBox(LEAST, MOST, LEAST, MOST), 0);
        Due.is("1: clusters", tree.clusters(MOST, LEAST), 0);
        Due.is("1: noise", tree.noise(LEAST, MOST), 0);
        for (int place = 0; place < 24; place++) {
            Due.is("1: remove " + place, tree.remove(place), NearTree.BAD);
            Due.is("1: move " + place, tree.move(place, 0, 0), NearTree.BAD);
            Due.is("1: clusterOf " + place, tree.clusterOf(place, MOST, LEAST), NearTree.BAD);
        }
        Due.is("1: add", tree.add(1, 2), 0);
        Due.is("1: another object stays apart", new NearTree().size(), 0);
    }

    private static void promise2Add() {
        NearTree tree = new NearTree();
        int[][] wrong = {{101, 0}, {-101, 0}, {0, 101}, {0, -101}, {LEAST, 0}, {MOST, 0}, {0, LEAST}, {0, MOST}};
        for (int[] spot : wrong) {
            Due.is("2: add " + spot[0] + ", " + spot[1], tree.add(spot[0], spot[1]), NearTree.BAD);
        }
        Due.is("2: a refused add leaves no point", tree.size(), 0);
        Due.is("2: add corner", tree.add(100, 100), 0);
        Due.is("2: add corner", tree.add(-100, -100), 1);
        Due.is("2: add corner", tree.add(100, -100), 2);
        Due.is("2: add corner", tree.add(-100, 100), 3);
        Due.is("2: add the same spot", tree.add(100, 100), 4);
        Due.is("2: remove", tree.remove(3), 4);
        Due.is("2: remove", tree.remove(1), 3);
        Due.is("2: the smallest empty place", tree.add(7, -9), 1);
        Due.is("2: the point is where it was put", tree.inBox(7, 7, -9, -9), 1);
        Due.is("2: the next empty place", tree.add(0, 0), 3);
        Due.is("2: then at the end", tree.add(0, 0), 5);
    }

    private static void promise2AddWhenFull() {
        NearTree tree = fullTree();
        Due.is("2: add when full", tree.add(0, 0), NearTree.FULL);
        Due.is("2: FULL comes before BAD", tree.add(101, 0), NearTree.FULL);
        Due.is("2: FULL comes before BAD", tree.add(0, LEAST), NearTree.FULL);
        Due.is("2: still full", tree.size(), 24);
        Due.is("2: remove last", tree.remove(23), 23);
        Due.is("2: BAD when not full", tree.add(0, 101), NearTree.BAD);
        Due.is("2: the last place", tree.add(0, 0), 23);
        Due.is("2: remove first", tree.remove(0), 23);
        Due.is("2: the first place", tree.add(0, 0), 0);
        Due.is("2: full again", tree.add(0, 0), NearTree.FULL);
    }

    private static void promise3Remove() {
        NearTree tree = withPoints(1, 1, 2, 2, 3, 3);
        int[] wrong = {-1, 3, 23, 24, 25, LEAST, MOST};
        for (int place : wrong) {
            Due.is("3: remove " + place, tree.remove(place), NearTree.BAD);
        }
        Due.is("3: a refused remove takes nothing", tree.size(), 3);
        Due.is("3: remove 1", tree.remove(1), 2);
        Due.is("3: it is gone", tree.inBox(2, 2, 2, 2), 0);
        Due.is("3: the others stay", tree.inBox(1, 3, 1, 3), 2);
        Due.is("3: remove 1 again", tree.remove(1), NearTree.BAD);
        Due.is("3: places do not shift", tree.nearest(3, 3, 0), 2);
        Due.is("3: a removed point does not count", tree.closest(), 8);
        Due.is("3: a removed point is not ranked", tree.nearest(2, 2, 2), NearTree.NONE);
        Due.is("3: a removed point is not near", tree.within(2, 2, 0), 0);
        Due.is("3: a removed point connects nothing", tree.clusters(2, 1), 2);
        Due.is("3: remove 0", tree.remove(0), 1);
        Due.is("3: remove 2", tree.remove(2), 0);
        Due.is("3: remove from none", tree.remove(2), NearTree.BAD);
        Due.is("3: remove the last place", fullTree().remove(23), 23);
    }

    private static void promise4Move() {
        NearTree tree = withPoints(0, 0, 5, 5);
        Due.is("4: move", tree.move(0, 3, -4), 25);
        Due.is("4: it is there", tree.inBox(3, 3, -4, -4), 1);
        Due.is("4: it is no longer here", tree.inBox(0, 0, 0, 0), 0);
        Due.is("4: the other stays", tree.inBox(5, 5, 5, 5), 1);
        Due.is("4: move to the same spot", tree.move(0, 3, -4), 0);
        Due.is("4: move onto another point", tree.move(0, 5, 5), 85);
        Due.is("4: move to a corner", tree.move(0, -100, -100), 22050);
        Due.is("4: move across", tree.move(0, 100, 100), 80000);
        int[][] wrong = {{0, 101, 0}, {0, -101, 0}, {0, 0, 101}, {0, 0, -101}, {0, LEAST, 0}, {0, 0, MOST},
            {2, 0, 0}, {-1, 0, 0}, {24, 0, 0}, {LEAST, 0, 0}, {MOST, 0, 0}, {2, 101, 0}};
        for (int[] call : wrong) {
            Due.is("4: move " + call[0] + ", " + call[1] + ", " + call[2],
                tree.move(call[0], call[1], call[2]), NearTree.BAD);
        }
        Due.is("4: a refused move moves nothing", tree.inBox(100, 100, 100, 100), 1);
        Due.is("4: a refused move adds nothing", tree.size(), 2);
        tree.remove(1);
        Due.is("4: move a removed point", tree.move(1, 0, 0), NearTree.BAD);
    }

    private static void promise5Size() {
        NearTree tree = new NearTree();
        for (int points = 1; points <= 24; points++) {
            tree.add(5, 5);
            Due.is("5: size", tree.size(), points);
        }
        tree.add(5, 5);
        Due.is("5: size after FULL", tree.size(), 24);
        tree.move(3, 6, 6);
        Due.is("5: size after move", tree.size(), 24);
        tree.remove(3);
        tree.remove(3);
        Due.is("5: size after remove", tree.size(), 23);
        tree.add(101, 0);
        Due.is("5: size after BAD", tree.size(), 23);
    }

    private static void promise6Nearest() {
        NearTree tree = withPoints(10, 0, -1, 0, 0, 5, 0, -3);
        int[] ranking = {1, 3, 2, 0};
        for (int k = 0; k < 4; k++) {
            Due.is("6: nearest(0, 0, " + k + ")", tree.nearest(0, 0, k), ranking[k]);
        }
        int[] outside = {-1, 4, 24, LEAST, MOST};
        for (int k : outside) {
            Due.is("6: nearest(0, 0, " + k + ")", tree.nearest(0, 0, k), NearTree.NONE);
        }
        Due.is("6: far corner", tree.nearest(200, 200, 0), 0);
        Due.is("6: far corner", tree.nearest(-200, -200, 0), 3);
        Due.is("6: far corner", tree.nearest(200, -200, 3), 2);
        Due.is("6: far corner", tree.nearest(-200, 200, 0), 2);
        int[][] wrong = {{201, 0}, {-201, 0}, {0, 201}, {0, -201}, {LEAST, 0}, {0, LEAST}, {MOST, 0}, {0, MOST}};
        for (int[] spot : wrong) {
            Due.is("6: nearest " + spot[0] + ", " + spot[1], tree.nearest(spot[0], spot[1], 0), NearTree.BAD);
        }
    }

    private static void promise6NearestTies() {
        NearTree tree = withPoints(3, 4, 0, 0, 5, 0, -4, -3, 0, 0, 0, -5);
        int[] ranking = {1, 4, 0, 2, 3, 5};
        for (int k = 0; k < 6; k++) {
            Due.is("6: ties, k " + k, tree.nearest(0, 0, k), ranking[k]);
        }
        tree.remove(0);
        Due.is("6: an empty place is passed over", tree.nearest(0, 0, 2), 2);
        Due.is("6: k is the size", tree.nearest(0, 0, 5), NearTree.NONE);
        NearTree full = fullTree();
        for (int k = 0; k < 24; k++) {
            Due.is("6: full, k " + k, full.nearest(-200, 0, k), k);
            Due.is("6: full from the right, k " + k, full.nearest(200, 0, k), 23 - k);
        }
        Due.is("6: full, k 24", full.nearest(0, 0, 24), NearTree.NONE);
    }

    private static void promise7Within() {
        NearTree tree = withPoints(3, 4, 0, 0, 0, 0, -100, -100);
        Due.is("7: on the rim", tree.within(0, 0, 25), 3);
        Due.is("7: inside the rim", tree.within(0, 0, 24), 2);
        Due.is("7: r2 0", tree.within(0, 0, 0), 2);
        Due.is("7: r2 -1", tree.within(0, 0, -1), 0);
        Due.is("7: least r2", tree.within(0, 0, LEAST), 0);
        Due.is("7: greatest r2", tree.within(200, -200, MOST), 4);
        Due.is("7: the greatest distance", tree.within(200, 200, 180000), 4);
        Due.is("7: one less", tree.within(200, 200, 179999), 3);
        Due.is("7: the other corner", tree.within(-200, -200, 20000), 1);
        int[][] wrong = {{201, 0}, {-201, 0}, {0, 201}, {0, -201}, {LEAST, 0}, {0, LEAST}, {MOST, 0}, {0, MOST}};
        for (int[] spot : wrong) {
            Due.is("7: within " + spot[0] + ", " + spot[1], tree.within(spot[0], spot[1], MOST), NearTree.BAD);
        }
        Due.is("7: BAD without points", new NearTree().within(0, 201, 5), NearTree.BAD);
        Due.is("7: a full tree", fullTree().within(0, 0, MOST), 24);
    }

    private static void promise8InBox() {
        NearTree tree = withPoints(1, 2, 3, 4, 3, 4, -5, 0);
        Due.is("8: all edges count", tree.inBox(1, 3, 2, 4), 3);
        Due.is("8: left edge", tree.inBox(2, 3, 2, 4), 2);
        Due.is("8: right edge", tree.inBox(1, 2, 2, 4), 1);
        Due.is("8: bottom edge", tree.inBox(1, 3, 3, 4), 2);
        Due.is("8: top edge", tree.inBox(1, 3, 2, 3), 1);
        Due.is("8: one spot", tree.inBox(-5, -5, 0, 0), 1);
        Due.is("8: everything", tree.inBox(LEAST, MOST, LEAST, MOST), 4);
        Due.is("8: left past right", tree.inBox(3, 1, 2, 4), 0);
        Due.is("8: bottom past top", tree.inBox(1, 3, 4, 2), 0);
        Due.is("8: turned round", tree.inBox(MOST, LEAST, MOST, LEAST), 0);
        Due.is("8: only columns", tree.inBox(3, MOST, LEAST, MOST), 2);
        Due.is("8: only rows", tree.inBox(LEAST, MOST, LEAST, 2), 2);
        Due.is("8: beyond the points", tree.inBox(101, MOST, LEAST, MOST), 0);
        Due.is("8: empty places are not at (0, 0)", tree.inBox(0, 0, 0, 0), 0);
        Due.is("8: a full tree", fullTree().inBox(-92, 92, 0, 0), 24);
    }

    private static void promise9Closest() {
        NearTree tree = new NearTree();
        tree.add(-100, -100);
        Due.is("9: one point", tree.closest(), NearTree.NONE);
        tree.add(100, 100);
        Due.is("9: the greatest distance", tree.closest(), 80000);
        tree.add(97, 96);
        Due.is("9: a nearer pair", tree.closest(), 25);
        tree.add(-100, -100);
        Due.is("9: the same spot", tree.closest(), 0);
        tree.remove(0);
        Due.is("9: after remove", tree.closest(), 25);
        tree.remove(2);
        tree.remove(1);
        Due.is("9: one point left", tree.closest(), NearTree.NONE);
        NearTree full = fullTree();
        full.move(23, 87, 0);
        Due.is("9: the last two places", full.closest(), 9);
    }

    private static void promise10Clusters() {
        // A row with gaps of 2, 2 and 4, and a lone point.
        NearTree tree = withPoints(0, 0, 2, 0, 4, 0, 8, 0, 50, 50);
        Due.is("10: r2 4, m 1", tree.clusters(4, 1), 3);
        Due.is("10: r2 3, m 1", tree.clusters(3, 1), 5);
        Due.is("10: r2 4, m 2", tree.clusters(4, 2), 1);
        Due.is("10: r2 4, m 3", tree.clusters(4, 3), 1);
        Due.is("10: r2 4, m 4", tree.clusters(4, 4), 0);
        Due.is("10: r2 16, m 1", tree.clusters(16, 1), 2);
        Due.is("10: r2 15, m 1", tree.clusters(15, 1), 3);
        NearTree bridge = withPoints(0, 0, 0, 0, 0, 0, 3, 0, 6, 0, 6, 0, 6, 0);
        Due.is("10: nothing is dense", bridge.clusters(9, 8), 0);
        Due.is("10: only the bridge is dense", bridge.clusters(9, 5), 1);
        Due.is("10: a dense bridge", bridge.clusters(9, 4), 1);
        bridge.move(3, 1, 0);
        Due.is("10: the bridge moved away", bridge.clusters(9, 3), 2);
        // A fringe point near two clusters does not connect them.
        NearTree thin = withPoints(-3, 0, -3, 0, -3, 0, -2, 0, 0, 0, 2, 0, 3, 0, 3, 0, 3, 0);
        Due.is("10: the middle is only fringe", thin.clusters(4, 4), 2);
        Due.is("10: the middle is dense", thin.clusters(4, 3), 1);
    }

    private static void promise10ClustersEdges() {
        NearTree tree = withPoints(5, 5, 5, 5, 6, 5);
        Due.is("10: r2 -1, m 1", tree.clusters(-1, 1), 0);
        Due.is("10: r2 -1, m 0", tree.clusters(-1, 0), 3);
        Due.is("10: least r2, least m", tree.clusters(LEAST, LEAST), 3);
        Due.is("10: least r2, greatest m", tree.clusters(LEAST, MOST), 0);
        Due.is("10: greatest r2, least m", tree.clusters(MOST, LEAST), 1);
        Due.is("10: greatest r2, greatest m", tree.clusters(MOST, MOST), 0);
        Due.is("10: r2 0, m 0", tree.clusters(0, 0), 2);
        Due.is("10: r2 0, m 2", tree.clusters(0, 2), 1);
        Due.is("10: r2 1, m 3", tree.clusters(1, 3), 1);
        NearTree full = fullTree();
        Due.is("10: a long chain", full.clusters(64, 1), 1);
        Due.is("10: a broken chain", full.clusters(63, 1), 24);
        Due.is("10: m 24", full.clusters(MOST, 24), 1);
        Due.is("10: m 25", full.clusters(MOST, 25), 0);
    }

    // A chain whose places jump to and fro: the neighbour in the row is seldom the neighbour in place.
    private static NearTree shuffledChain() {
        NearTree tree = new NearTree();
        for (int place = 0; place < 24; place++) {
            tree.add((place * 7 + 11) % 24 * 8 - 92, 0);
        }
        return tree;
    }

    private static void promise11ClusterOf() {
        NearTree tree = withPoints(0, 0, 50, 50, 2, 0, 52, 50, 4, 0, 54, 50, -90, -90);
        int[] due = {0, 1, 0, 1, 0, 1, 6};
        int[] dueForThree = {NearTree.NONE, NearTree.NONE, 2, 3, NearTree.NONE, NearTree.NONE, NearTree.NONE};
        for (int place = 0; place < 7; place++) {
            Due.is("11: m 1, place " + place, tree.clusterOf(place, 4, 1), due[place]);
            Due.is("11: m 3, place " + place, tree.clusterOf(place, 4, 3), dueForThree[place]);
            Due.is("11: r2 -1, m 0, place " + place, tree.clusterOf(place, -1, 0), place);
            Due.is("11: r2 -1, m 1, place " + place, tree.clusterOf(place, -1, 1), NearTree.NONE);
            Due.is("11: greatest r2, place " + place, tree.clusterOf(place, MOST, LEAST), 0);
        }
        int[] wrong = {-1, 7, 23, 24, LEAST, MOST};
        for (int place : wrong) {
            Due.is("11: clusterOf " + place, tree.clusterOf(place, 4, 1), NearTree.BAD);
        }
        tree.remove(0);
        Due.is("11: a removed point", tree.clusterOf(0, 4, 1), NearTree.BAD);
        Due.is("11: the smallest that is left", tree.clusterOf(4, 4, 1), 2);
        Due.is("11: the state is as before", tree.size(), 6);
        NearTree chain = shuffledChain();
        for (int place = 0; place < 24; place++) {
            Due.is("11: chain, place " + place, chain.clusterOf(place, 64, 2), 0);
        }
    }

    private static void promise12Noise() {
        NearTree tree = withPoints(0, 0, 2, 0, 4, 0, 6, 0, 50, 50);
        Due.is("12: dense points are no noise", tree.noise(4, 1), 0);
        Due.is("12: the lone point", tree.noise(4, 2), 1);
        Due.is("12: fringe points are no noise", tree.noise(4, 3), 1);
        Due.is("12: no dense point, no fringe", tree.noise(4, 4), 5);
        Due.is("12: r2 3", tree.noise(3, 2), 5);
        Due.is("12: r2 -1, m 1", tree.noise(-1, 1), 5);
        Due.is("12: r2 -1, m 0", tree.noise(-1, 0), 0);
        Due.is("12: greatest r2, m is the size", tree.noise(MOST, 5), 0);
        Due.is("12: greatest r2, m one more", tree.noise(MOST, 6), 5);
        Due.is("12: least r2, greatest m", tree.noise(LEAST, MOST), 5);
        Due.is("12: least r2, least m", tree.noise(LEAST, LEAST), 0);
        tree.remove(1);
        Due.is("12: after remove", tree.noise(4, 2), 2);
        // Near a fringe point is not enough: only a dense point saves from noise.
        NearTree tail = withPoints(0, 0, 0, 0, 0, 0, 0, 0, 1, 0, 2, 0, 3, 0);
        Due.is("12: (2, 0) is fringe, (3, 0) is noise", tail.noise(1, 5), 1);
        Due.is("12: (1, 0) alone is dense", tail.noise(1, 6), 1);
        Due.is("12: nothing is dense", tail.noise(1, 7), 7);
        NearTree first = withPoints(0, 0, 1, 0, -1, 0);
        Due.is("12: only place 0 is dense", first.noise(1, 3), 0);
        NearTree last = fullTree();
        last.move(0, 92, 10);
        last.move(1, 92, -10);
        Due.is("12: only place 23 is dense", last.noise(100, 4), 20);
        Due.is("12: a full tree", fullTree().noise(63, 2), 24);
    }

    private static void promise13Order() {
        NearTree tree = withPoints(0, 0);
        Due.is("13: nearest, BAD before NONE", tree.nearest(201, 0, 1), NearTree.BAD);
        Due.is("13: nearest, BAD before NONE", tree.nearest(0, -201, -1), NearTree.BAD);
        Due.is("13: nearest, BAD without points", new NearTree().nearest(0, 201, 0), NearTree.BAD);
        Due.is("13: nearest, NONE", tree.nearest(200, 0, 1), NearTree.NONE);
        Due.is("13: clusterOf, BAD before NONE", tree.clusterOf(1, 0, MOST), NearTree.BAD);
        Due.is("13: clusterOf, BAD before NONE", tree.clusterOf(-1, -1, 1), NearTree.BAD);
        Due.is("13: clusterOf, NONE", tree.clusterOf(0, 0, 2), NearTree.NONE);
        Due.is("13: BAD", NearTree.BAD, -1);
        Due.is("13: FULL", NearTree.FULL, -2);
        Due.is("13: NONE", NearTree.NONE, -3);
    }
}
