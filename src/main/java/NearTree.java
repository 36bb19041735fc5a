// Points in the plane: nearest neighbours, circles and clusters.
// A "distance" is always the square of the plain distance, as in the document.
public final class NearTree {
    public static final int BAD = -1;
    public static final int FULL = -2;
    public static final int NONE = -3;

    private static final int PLACES = 24;
    private static final int POINT_LIMIT = 100;
    private static final int SPOT_LIMIT = 200;

    private final int[] xs = new int[PLACES];
    private final int[] ys = new int[PLACES];
    private final boolean[] taken = new boolean[PLACES];
    private int count = 0;

    // These two are no state: each question about clusters fills them anew,
    // because a method may not make arrays of its own.
    private final boolean[] dense = new boolean[PLACES];
    private final int[] cluster = new int[PLACES];

    public NearTree() {
    }

    public int add(int x, int y) {
        if (count >= PLACES) {
            return FULL;
        }
        if (isOutside(x, y, POINT_LIMIT)) {
            return BAD;
        }
        int place = 0;
        while (place < PLACES - 1 && taken[place]) {
            place++;
        }
        taken[place] = true;
        xs[place] = x;
        ys[place] = y;
        count++;
        return place;
    }

    public int remove(int place) {
        if (!hasPoint(place)) {
            return BAD;
        }
        taken[place] = false;
        count--;
        return count;
    }

    public int move(int place, int x, int y) {
        if (!hasPoint(place) || isOutside(x, y, POINT_LIMIT)) {
            return BAD;
        }
        int moved = distanceFrom(place, x, y);
        xs[place] = x;
        ys[place] = y;
        return moved;
    }

    public int size() {
        return count;
    }

    public int nearest(int x, int y, int k) {
        if (isOutside(x, y, SPOT_LIMIT)) {
            return BAD;
        }
        for (int place = 0; place < PLACES; place++) {
            if (taken[place] && rankOf(place, x, y) == k) {
                return place;
            }
        }
        // The ranks in use are just 0 .. size() - 1, so k is outside them.
        return NONE;
    }

    public int within(int x, int y, int r2) {
        if (isOutside(x, y, SPOT_LIMIT)) {
            return BAD;
        }
        return countNear(x, y, r2);
    }

    public int inBox(int left, int right, int bottom, int top) {
        int found = 0;
        for (int place = 0; place < PLACES; place++) {
            boolean inColumns = left <= xs[place] && xs[place] <= right;
            boolean inRows = bottom <= ys[place] && ys[place] <= top;
            if (taken[place] && inColumns && inRows) {
                found++;
            }
        }
        return found;
    }

    public int closest() {
        int least = NONE;
        for (int one = 0; one < PLACES; one++) {
            for (int other = one + 1; other < PLACES; other++) {
                if (taken[one] && taken[other]) {
                    int distance = distanceFrom(one, xs[other], ys[other]);
                    least = least == NONE || distance < least ? distance : least;
                }
            }
        }
        return least;
    }

    public int clusters(int r2, int m) {
        findClusters(r2, m);
        int found = 0;
        for (int place = 0; place < PLACES; place++) {
            // Each cluster has one point that gives it its name.
            if (dense[place] && cluster[place] == place) {
                found++;
            }
        }
        return found;
    }

    public int clusterOf(int place, int r2, int m) {
        if (!hasPoint(place)) {
            return BAD;
        }
        findClusters(r2, m);
        return dense[place] ? cluster[place] : NONE;
    }

    public int noise(int r2, int m) {
        findDense(r2, m);
        int found = 0;
        for (int place = 0; place < PLACES; place++) {
            if (taken[place] && !dense[place] && !isFringe(place, r2)) {
                found++;
            }
        }
        return found;
    }

    private boolean hasPoint(int place) {
        return place >= 0 && place < PLACES && taken[place];
    }

    private static boolean isOutside(int x, int y, int limit) {
        return x < -limit || x > limit || y < -limit || y > limit;
    }

    // Callers have checked the spot, so the squares stay far inside an int.
    private int distanceFrom(int place, int x, int y) {
        int across = xs[place] - x;
        int up = ys[place] - y;
        return across * across + up * up;
    }

    // The number of points that are ranked before this one.
    private int rankOf(int place, int x, int y) {
        int own = distanceFrom(place, x, y);
        int before = 0;
        for (int other = 0; other < PLACES; other++) {
            int distance = distanceFrom(other, x, y);
            boolean isBefore = distance < own || distance == own && other < place;
            if (taken[other] && isBefore) {
                before++;
            }
        }
        return before;
    }

    private int countNear(int x, int y, int r2) {
        int found = 0;
        for (int place = 0; place < PLACES; place++) {
            if (taken[place] && distanceFrom(place, x, y) <= r2) {
                found++;
            }
        }
        return found;
    }

    private void findDense(int r2, int m) {
        for (int place = 0; place < PLACES; place++) {
            // With a negative r2 a point is not even near itself; the count is
            // then 0, and only an m of 0 or less makes it dense.
            dense[place] = taken[place] && countNear(xs[place], ys[place], r2) >= m;
        }
    }

    // A cluster is named by the smallest place in it.
    private void findClusters(int r2, int m) {
        findDense(r2, m);
        for (int place = 0; place < PLACES; place++) {
            cluster[place] = place;
        }
        for (int one = 0; one < PLACES; one++) {
            for (int other = one + 1; other < PLACES; other++) {
                boolean bothDense = dense[one] && dense[other];
                if (bothDense && distanceFrom(one, xs[other], ys[other]) <= r2) {
                    joinClusters(cluster[one], cluster[other]);
                }
            }
        }
    }

    // Renames every member at once, so that one pass over the pairs is enough.
    private void joinClusters(int one, int other) {
        int smaller = one < other ? one : other;
        int larger = one < other ? other : one;
        for (int place = 0; place < PLACES; place++) {
            if (cluster[place] == larger) {
                cluster[place] = smaller;
            }
        }
    }

    private boolean isFringe(int place, int r2) {
        for (int other = 0; other < PLACES; other++) {
            if (dense[other] && distanceFrom(other, xs[place], ys[place]) <= r2) {
                return true;
            }
        }
        return false;
    }
}
