// Objects and numbers that several tests start from.
final class Trees {
    static final int LEAST = Integer.MIN_VALUE;
    static final int MOST = Integer.MAX_VALUE;
    static final int PLACES = 24;

    // Beside the nearest wrong numbers stand those that a narrower type, a mask or a turned sign would let pass.
    private static final int[] OUTSIDE_POINT = {101, -101, 256, -256, 65536, -65536, MOST, -MOST, LEAST};
    private static final int[] OUTSIDE_SPOT = {201, -201, 256, -256, 65536, -65536, MOST, -MOST, LEAST};
    private static final int[] OUTSIDE_PLACE = {-1, 24, 25, 32, 256, 65536, MOST, -MOST, LEAST};

    private Trees() {
    }

    // Copies, so that no test can spoil the numbers of the next one.
    static int[] outsidePoint() {
        return OUTSIDE_POINT.clone();
    }

    static int[] outsideSpot() {
        return OUTSIDE_SPOT.clone();
    }

    static int[] outsidePlace() {
        return OUTSIDE_PLACE.clone();
    }

    static NearTree with(int... coordinates) {
        NearTree tree = new NearTree();
        for (int i = 0; i < coordinates.length; i += 2) {
            tree.add(coordinates[i], coordinates[i + 1]);
        }
        return tree;
    }

    // Every place at the same spot.
    static NearTree heap(int points, int x, int y) {
        NearTree tree = new NearTree();
        for (int place = 0; place < points; place++) {
            tree.add(x, y);
        }
        return tree;
    }

    // Place p is at (8p - 92, 0), so each neighbour in the row has a distance of 64.
    static int[] rowSpots() {
        int[] coordinates = new int[2 * PLACES];
        for (int place = 0; place < PLACES; place++) {
            coordinates[2 * place] = 8 * place - 92;
        }
        return coordinates;
    }

    static NearTree row() {
        return with(rowSpots());
    }

    // The same row, but the neighbour in the row is seldom the neighbour in place.
    static NearTree shuffledRow() {
        NearTree tree = new NearTree();
        for (int place = 0; place < PLACES; place++) {
            tree.add((place * 7 + 11) % PLACES * 8 - 92, 0);
        }
        return tree;
    }

    // Tells the whole state, as long as no two of the points are at the same spot: place p has the p-th spot.
    static void isJust(String when, NearTree tree, int... coordinates) {
        Due.is(when + ": size", tree.size(), coordinates.length / 2);
        for (int place = 0; place < coordinates.length / 2; place++) {
            int x = coordinates[2 * place];
            int y = coordinates[2 * place + 1];
            String spot = "(" + x + ", " + y + ")";
            Due.is(when + ": points at " + spot, tree.within(x, y, 0), 1);
            Due.is(when + ": place at " + spot, tree.nearest(x, y, 0), place);
        }
    }
}
