// Promises 1 to 5: a test for each sentence, or for each boundary in it.
public final class ChangeEdgeTest {
    private static final int LEAST = Trees.LEAST;
    private static final int MOST = Trees.MOST;

    public static void main(String[] args) {
        Due.sentence("1: no points", ChangeEdgeTest::noPoints);
        Due.sentence("1: no points, whatever other objects have", ChangeEdgeTest::objectsAreApart);
        Due.sentence("2: the smallest empty place", ChangeEdgeTest::smallestEmptyPlace);
        Due.sentence("2: no place is empty: FULL", ChangeEdgeTest::addToFull);
        Due.sentence("2: x or y outside -100..100: BAD", ChangeEdgeTest::addOutside);
        Due.sentence("2: FULL is tested before BAD", ChangeEdgeTest::fullBeforeBad);
        Due.sentence("2: else answers the place, the last one too", ChangeEdgeTest::lastPlace);
        Due.sentence("2: a refused add puts no point", ChangeEdgeTest::refusedAdd);
        Due.sentence("3: there is no point in the place: BAD", ChangeEdgeTest::removeNone);
        Due.sentence("3: no such place: BAD", ChangeEdgeTest::removeNoPlace);
        Due.sentence("3: the number of points left", ChangeEdgeTest::pointsLeft);
        Due.sentence("3: takes the point away", ChangeEdgeTest::takenAway);
        Due.sentence("3: a refused remove takes nothing", ChangeEdgeTest::refusedRemove);
        Due.sentence("4: moves the point in a place, which it keeps", ChangeEdgeTest::moveKeepsThePlace);
        Due.sentence("4: there is no point in the place: BAD", ChangeEdgeTest::moveNone);
        Due.sentence("4: no such place: BAD", ChangeEdgeTest::moveNoPlace);
        Due.sentence("4: x or y outside -100..100: BAD", ChangeEdgeTest::moveOutside);
        Due.sentence("4: moves to the very edge", ChangeEdgeTest::moveToTheEdge);
        Due.sentence("4: its distance from where it was", ChangeEdgeTest::distanceMoved);
        Due.sentence("4: a refused move moves nothing", ChangeEdgeTest::refusedMove);
        Due.sentence("4: a full object can move its points", ChangeEdgeTest::moveInFull);
        Due.sentence("5: the number of points, none to all", ChangeEdgeTest::sizes);
        Due.sentence("5: the number of points after refused calls", ChangeEdgeTest::sizeAfterRefused);
        Due.end();
    }

    private static void noPoints() {
        NearTree tree = new NearTree();
        Due.is("size", tree.size(), 0);
        Due.is("nearest", tree.nearest(0, 0, 0), NearTree.NONE);
        Due.is("within", tree.within(0, 0, MOST), 0);
        Due.is("inBox", tree.inBox(LEAST, MOST, LEAST, MOST), 0);
        Due.is("closest", tree.closest(), NearTree.NONE);
        Due.is("clusters", tree.clusters(MOST, LEAST), 0);
        Due.is("noise", tree.noise(LEAST, MOST), 0);
        for (int place = 0; place < 24; place++) {
            Due.is("clusterOf " + place, tree.clusterOf(place, MOST, LEAST), NearTree.BAD);
        }
    }

    private static void objectsAreApart() {
        NearTree first = Trees.row();
        NearTree second = new NearTree();
        Due.is("size of the new one", second.size(), 0);
        Due.is("add to the new one", second.add(100, 100), 0);
        Trees.isJust("the old one", first, Trees.rowSpots());
        Due.is("remove from the old one", first.remove(23), 23);
        Trees.isJust("the new one", second, 100, 100);
    }

    private static void smallestEmptyPlace() {
        NearTree tree = Trees.row();
        int[] emptied = {23, 0, 7, 22, 6};
        for (int place : emptied) {
            tree.remove(place);
        }
        int[] due = {0, 6, 7, 22, 23};
        for (int place : due) {
            Due.is("add", tree.add(8 * place - 92, 0), place);
        }
        Trees.isJust("filled again", tree, Trees.rowSpots());
    }

    private static void addToFull() {
        NearTree tree = Trees.row();
        Due.is("24 points have room", tree.size(), 24);
        Due.is("a 25th point", tree.add(0, 50), NearTree.FULL);
        Due.is("a 25th point at the spot of another", tree.add(-92, 0), NearTree.FULL);
        tree.remove(5);
        Due.is("one place is empty", tree.add(0, 50), 5);
        Due.is("full again", tree.add(0, 50), NearTree.FULL);
    }

    private static void addOutside() {
        NearTree tree = new NearTree();
        for (int far : Trees.outsidePoint()) {
            Due.is("add(" + far + ", 0)", tree.add(far, 0), NearTree.BAD);
            Due.is("add(0, " + far + ")", tree.add(0, far), NearTree.BAD);
            Due.is("add(100, " + far + ")", tree.add(100, far), NearTree.BAD);
            Due.is("add(" + far + ", " + far + ")", tree.add(far, far), NearTree.BAD);
        }
        NearTree almostFull = Trees.heap(23, 0, 0);
        Due.is("add(101, 0) for the last place", almostFull.add(101, 0), NearTree.BAD);
        Due.is("add(0, -101) for the last place", almostFull.add(0, -101), NearTree.BAD);
    }

    private static void fullBeforeBad() {
        NearTree tree = Trees.row();
        for (int far : Trees.outsidePoint()) {
            Due.is("add(" + far + ", 0)", tree.add(far, 0), NearTree.FULL);
            Due.is("add(0, " + far + ")", tree.add(0, far), NearTree.FULL);
        }
    }

    private static void lastPlace() {
        NearTree tree = Trees.heap(23, 0, 0);
        Due.is("the 24th point", tree.add(100, -100), 23);
        Due.is("it is there", tree.nearest(100, -100, 0), 23);
        tree.remove(23);
        Due.is("the 24th point again", tree.add(-100, 100), 23);
    }

    private static void refusedAdd() {
        NearTree tree = Trees.with(1, 2, 3, 4);
        tree.add(101, 2);
        tree.add(3, -101);
        Trees.isJust("after BAD", tree, 1, 2, 3, 4);
        Due.is("the place is still empty", tree.add(5, 6), 2);
        NearTree full = Trees.row();
        full.add(50, 50);
        full.add(101, 0);
        Trees.isJust("after FULL", full, Trees.rowSpots());
    }

    private static void removeNone() {
        NearTree tree = Trees.with(1, 1, 2, 2, 3, 3);
        for (int place = 3; place < 24; place++) {
            Due.is("never used, remove " + place, tree.remove(place), NearTree.BAD);
        }
        tree.remove(1);
        Due.is("removed before", tree.remove(1), NearTree.BAD);
        NearTree empty = new NearTree();
        for (int place = 0; place < 24; place++) {
            Due.is("no points, remove " + place, empty.remove(place), NearTree.BAD);
        }
    }

    private static void removeNoPlace() {
        NearTree tree = Trees.row();
        for (int place : Trees.outsidePlace()) {
            Due.is("remove " + place, tree.remove(place), NearTree.BAD);
        }
    }

    private static void pointsLeft() {
        NearTree tree = Trees.row();
        for (int place = 23; place >= 0; place--) {
            Due.is("remove " + place, tree.remove(place), place);
        }
        Due.is("add again", tree.add(0, 0), 0);
        Due.is("the only one", tree.remove(0), 0);
        NearTree upwards = Trees.row();
        for (int place = 0; place < 24; place++) {
            Due.is("upwards, remove " + place, upwards.remove(place), 23 - place);
        }
    }

    private static void takenAway() {
        NearTree tree = Trees.with(1, 1, 2, 2, 3, 3);
        tree.remove(1);
        Due.is("not counted", tree.size(), 2);
        Due.is("not near", tree.within(2, 2, 0), 0);
        Due.is("not in the box", tree.inBox(2, 2, 2, 2), 0);
        Due.is("not ranked", tree.nearest(2, 2, 0), 0);
        Due.is("not ranked last", tree.nearest(2, 2, 2), NearTree.NONE);
        Due.is("in no pair", tree.closest(), 8);
        Due.is("it connects nothing", tree.clusters(2, 1), 2);
        Due.is("it makes nothing dense", tree.clusters(2, 2), 0);
        Due.is("no noise", tree.noise(2, 2), 2);
        Due.is("in no cluster", tree.clusterOf(1, 2, 0), NearTree.BAD);
        Due.is("the next keeps its place", tree.nearest(3, 3, 0), 2);
    }

    private static void refusedRemove() {
        NearTree tree = Trees.with(1, 1, 2, 2, 3, 3);
        tree.remove(-1);
        tree.remove(3);
        tree.remove(23);
        tree.remove(24);
        Trees.isJust("after BAD", tree, 1, 1, 2, 2, 3, 3);
        Due.is("the next place is the same", tree.add(4, 4), 3);
    }

    private static void moveKeepsThePlace() {
        NearTree tree = Trees.with(1, 1, 2, 2, 3, 3, 4, 4);
        tree.remove(0);
        tree.remove(2);
        Due.is("move 3", tree.move(3, 50, -60), 6212);
        Due.is("it is there now", tree.nearest(50, -60, 0), 3);
        Due.is("it is no longer there", tree.inBox(4, 4, 4, 4), 0);
        Due.is("the other one stays", tree.nearest(2, 2, 0), 1);
        Due.is("move 1", tree.move(1, 50, -60), 6148);
        Due.is("the smaller place is ranked first", tree.nearest(50, -60, 0), 1);
        Due.is("the greater place is ranked next", tree.nearest(50, -60, 1), 3);
        Due.is("place 0 is still empty", tree.add(0, 0), 0);
        Due.is("place 2 is still empty", tree.add(0, 0), 2);
    }

    private static void moveNone() {
        NearTree tree = Trees.with(1, 1, 2, 2);
        for (int place = 2; place < 24; place++) {
            Due.is("never used, move " + place, tree.move(place, 0, 0), NearTree.BAD);
        }
        tree.remove(0);
        Due.is("removed before", tree.move(0, 0, 0), NearTree.BAD);
        Due.is("removed before, back to its spot", tree.move(0, 1, 1), NearTree.BAD);
        Due.is("removed before, and outside", tree.move(0, 101, 1), NearTree.BAD);
        Due.is("no points", new NearTree().move(0, 0, 0), NearTree.BAD);
    }

    private static void moveNoPlace() {
        NearTree tree = Trees.row();
        for (int place : Trees.outsidePlace()) {
            Due.is("move " + place, tree.move(place, 0, 0), NearTree.BAD);
            Due.is("move outside, " + place, tree.move(place, 0, 101), NearTree.BAD);
        }
    }

    private static void moveOutside() {
        NearTree tree = Trees.with(100, 100);
        for (int far : Trees.outsidePoint()) {
            Due.is("move(0, " + far + ", 0)", tree.move(0, far, 0), NearTree.BAD);
            Due.is("move(0, 0, " + far + ")", tree.move(0, 0, far), NearTree.BAD);
            Due.is("move(0, " + far + ", 100)", tree.move(0, far, 100), NearTree.BAD);
            Due.is("move(0, " + far + ", " + far + ")", tree.move(0, far, far), NearTree.BAD);
        }
    }

    private static void moveToTheEdge() {
        int[] edges = {-100, 100, 0};
        for (int x : edges) {
            for (int y : edges) {
                NearTree tree = Trees.with(0, 0);
                Due.is("move(0, " + x + ", " + y + ")", tree.move(0, x, y), x * x + y * y);
                Trees.isJust("moved", tree, x, y);
            }
        }
    }

    private static void distanceMoved() {
        NearTree tree = Trees.with(-100, 100, 0, 0);
        Due.is("the greatest way", tree.move(0, 100, -100), 80000);
        Due.is("and back", tree.move(0, -100, 100), 80000);
        Due.is("no way at all", tree.move(0, -100, 100), 0);
        Due.is("onto another point", tree.move(0, 0, 0), 20000);
        Due.is("from where it is now", tree.move(0, 3, 4), 25);
        Due.is("the other one has not moved", tree.move(1, 1, 0), 1);
    }

    private static void refusedMove() {
        NearTree tree = Trees.with(1, 1, 2, 2);
        tree.move(0, 101, 5);
        tree.move(0, 5, 101);
        tree.move(1, -101, -101);
        tree.move(2, 5, 5);
        tree.move(-1, 5, 5);
        tree.move(24, 5, 5);
        Trees.isJust("after BAD", tree, 1, 1, 2, 2);
        Due.is("the next place is the same", tree.add(5, 5), 2);
    }

    private static void moveInFull() {
        NearTree tree = Trees.row();
        int[] due = Trees.rowSpots();
        for (int place = 0; place < 24; place++) {
            due[2 * place + 1] = 100;
            Due.is("move " + place, tree.move(place, due[2 * place], 100), 10000);
        }
        Trees.isJust("all moved", tree, due);
    }

    private static void sizes() {
        NearTree tree = new NearTree();
        Due.is("no points", tree.size(), 0);
        for (int points = 1; points <= 24; points++) {
            tree.add(5, 5);
            Due.is("after add", tree.size(), points);
        }
        for (int points = 23; points >= 0; points--) {
            tree.remove(23 - points);
            Due.is("after remove", tree.size(), points);
        }
    }

    private static void sizeAfterRefused() {
        NearTree tree = Trees.heap(24, 5, 5);
        tree.add(5, 5);
        Due.is("after FULL", tree.size(), 24);
        tree.remove(3);
        tree.remove(3);
        Due.is("after a second remove", tree.size(), 23);
        tree.add(101, 0);
        Due.is("after BAD of add", tree.size(), 23);
        tree.move(3, 0, 0);
        Due.is("after BAD of move", tree.size(), 23);
        tree.move(4, 0, 0);
        Due.is("after a move", tree.size(), 23);
    }
}
