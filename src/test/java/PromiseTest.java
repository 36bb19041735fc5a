// One method for each promise with ordinary inputs; the boundaries are in TermsTest and the three EdgeTests.
public final class PromiseTest {
    public static void main(String[] args) {
        promise1NewObject();
        promise2Add();
        promise3Remove();
        promise4Move();
        promise5Size();
        promise6Nearest();
        promise7Within();
        promise8InBox();
        promise9Closest();
        promise10Clusters();
        promise11ClusterOf();
        promise12Noise();
        promise13Order();
        Due.end();
    }

    private static void promise1NewObject() {
        NearTree tree = new NearTree();
        Due.is("1: size", tree.size(), 0);
        Due.is("1: nearest", tree.nearest(3, 3, 0), NearTree.NONE);
        Due.is("1: add", tree.add(1, 2), 0);
    }

    private static void promise2Add() {
        NearTree tree = new NearTree();
        Due.is("2: add", tree.add(10, 20), 0);
        Due.is("2: add", tree.add(-30, 40), 1);
        Due.is("2: add", tree.add(50, -60), 2);
        Trees.isJust("2: three points", tree, 10, 20, -30, 40, 50, -60);
        tree.remove(1);
        Due.is("2: the smallest empty place", tree.add(7, -9), 1);
        Trees.isJust("2: one replaced", tree, 10, 20, 7, -9, 50, -60);
    }

    private static void promise3Remove() {
        NearTree tree = Trees.with(1, 1, 2, 2, 3, 3);
        Due.is("3: remove", tree.remove(1), 2);
        Due.is("3: it is gone", tree.inBox(2, 2, 2, 2), 0);
        Due.is("3: the others stay", tree.inBox(1, 3, 1, 3), 2);
        Due.is("3: remove it again", tree.remove(1), NearTree.BAD);
    }

    private static void promise4Move() {
        NearTree tree = Trees.with(0, 0, 5, 5);
        Due.is("4: move", tree.move(0, 3, -4), 25);
        Trees.isJust("4: moved", tree, 3, -4, 5, 5);
        Due.is("4: move", tree.move(1, 10, 15), 125);
        Trees.isJust("4: moved", tree, 3, -4, 10, 15);
        Due.is("4: move nothing", tree.move(2, 0, 0), NearTree.BAD);
    }

    private static void promise5Size() {
        NearTree tree = Trees.with(4, 4, 5, 5, 6, 6);
        Due.is("5: size", tree.size(), 3);
        tree.remove(0);
        Due.is("5: size after remove", tree.size(), 2);
    }

    private static void promise6Nearest() {
        NearTree tree = Trees.with(10, 0, -1, 0, 0, 5, 0, -3);
        int[] due = {1, 3, 2, 0};
        for (int k = 0; k < due.length; k++) {
            Due.is("6: nearest(0, 0, " + k + ")", tree.nearest(0, 0, k), due[k]);
        }
        Due.is("6: another spot", tree.nearest(9, 1, 0), 0);
        Due.is("6: too great a k", tree.nearest(0, 0, 9), NearTree.NONE);
        Due.is("6: too far a spot", tree.nearest(0, 900, 0), NearTree.BAD);
    }

    private static void promise7Within() {
        NearTree tree = Trees.with(3, 4, 0, 0, 1, 0, -50, -50);
        Due.is("7: within(0, 0, 30)", tree.within(0, 0, 30), 3);
        Due.is("7: within(0, 0, 10)", tree.within(0, 0, 10), 2);
        Due.is("7: within(-49, -48, 10)", tree.within(-49, -48, 10), 1);
        Due.is("7: within(80, 80, 10)", tree.within(80, 80, 10), 0);
        Due.is("7: too far a spot", tree.within(900, 0, 10), NearTree.BAD);
    }

    private static void promise8InBox() {
        NearTree tree = Trees.with(1, 2, 3, 4, 3, 4, -5, 0);
        Due.is("8: three of four", tree.inBox(0, 5, 0, 5), 3);
        Due.is("8: one", tree.inBox(-10, 2, 1, 10), 1);
        Due.is("8: none", tree.inBox(10, 20, 0, 5), 0);
    }

    private static void promise9Closest() {
        NearTree tree = Trees.with(-50, -50, 50, 50, 47, 46);
        Due.is("9: closest", tree.closest(), 25);
        tree.move(2, -50, -47);
        Due.is("9: after a move", tree.closest(), 9);
        tree.remove(0);
        Due.is("9: after a remove", tree.closest(), 19409);
    }

    private static void promise10Clusters() {
        // A row with gaps of 2, 2 and 4, and a lone point.
        NearTree tree = Trees.with(0, 0, 2, 0, 4, 0, 8, 0, 50, 50);
        Due.is("10: r2 5, m 1", tree.clusters(5, 1), 3);
        Due.is("10: r2 3, m 1", tree.clusters(3, 1), 5);
        Due.is("10: r2 5, m 2", tree.clusters(5, 2), 1);
        Due.is("10: r2 5, m 4", tree.clusters(5, 4), 0);
        Due.is("10: r2 20, m 1", tree.clusters(20, 1), 2);
        NearTree bridge = Trees.with(0, 0, 0, 0, 0, 0, 3, 0, 6, 0, 6, 0, 6, 0);
        Due.is("10: a dense bridge", bridge.clusters(9, 4), 1);
        bridge.move(3, 1, 0);
        Due.is("10: the bridge moved away", bridge.clusters(9, 3), 2);
    }

    private static void promise11ClusterOf() {
        NearTree tree = Trees.with(0, 0, 50, 50, 2, 0, 52, 50, 4, 0, 54, 50, -90, -90);
        int none = NearTree.NONE;
        int[] due = {0, 1, 0, 1, 0, 1, 6};
        int[] dueForThree = {none, none, 2, 3, none, none, none};
        for (int place = 0; place < due.length; place++) {
            Due.is("11: m 1, place " + place, tree.clusterOf(place, 5, 1), due[place]);
            Due.is("11: m 3, place " + place, tree.clusterOf(place, 5, 3), dueForThree[place]);
        }
        Due.is("11: no point", tree.clusterOf(7, 5, 1), NearTree.BAD);
    }

    private static void promise12Noise() {
        NearTree tree = Trees.with(0, 0, 2, 0, 4, 0, 6, 0, 50, 50);
        Due.is("12: all are dense", tree.noise(5, 1), 0);
        Due.is("12: the lone point", tree.noise(5, 2), 1);
        Due.is("12: fringe points are no noise", tree.noise(5, 3), 1);
        Due.is("12: nothing is dense", tree.noise(5, 4), 5);
        tree.remove(1);
        Due.is("12: after a remove", tree.noise(5, 2), 2);
    }

    private static void promise13Order() {
        NearTree tree = Trees.with(0, 0);
        Due.is("13: nearest, both wrong", tree.nearest(900, 0, 9), NearTree.BAD);
        Due.is("13: clusterOf, both wrong", tree.clusterOf(9, 5, 9), NearTree.BAD);
        Due.is("BAD", NearTree.BAD, -1);
        Due.is("FULL", NearTree.FULL, -2);
        Due.is("NONE", NearTree.NONE, -3);
    }
}
