import java.util.ArrayDeque;
import java.util.ArrayList;
import java.util.Comparator;
import java.util.List;
import java.util.TreeMap;
import java.util.TreeSet;

// Long runs of calls, each answer compared with a second program that is written from the document in another way.
public final class ModelTest {
    private static final int RUNS = 400;
    // The document promises nothing after an object's 512th call.
    private static final int CALLS = 512;

    private long seed = 20261115L;
    private NearTree tree = new NearTree();
    private TreeMap<Integer, int[]> model = new TreeMap<>();

    public static void main(String[] args) {
        ModelTest test = new ModelTest();
        for (int run = 0; run < RUNS; run++) {
            test.run(run);
        }
        Due.end();
    }

    // Small spreads bring equal spots and ties, the greatest one brings spots that are refused.
    private void run(int run) {
        int[] spreads = {1, 3, 8, 25, 102};
        int spread = spreads[run % spreads.length];
        tree = new NearTree();
        model = new TreeMap<>();
        for (int call = 0; call < CALLS; call++) {
            if (pick(0, 99) < 45) {
                change("run " + run + ", call " + call + ": ", spread, run % 3);
            } else {
                ask("run " + run + ", call " + call + ": ", spread);
            }
        }
    }

    private int pick(int least, int most) {
        seed = seed * 6364136223846793005L + 1442695040888963407L;
        return least + (int) ((seed >>> 33) % (most - least + 1));
    }

    private int coordinate(int spread) {
        return pick(-spread, spread);
    }

    // Now and then a spot near the edge of what may be asked about.
    private int askedCoordinate(int spread) {
        return pick(0, 9) == 0 ? pick(0, 1) * 396 - 198 + pick(-3, 3) : coordinate(spread);
    }

    private int radius(int spread) {
        int[] edges = {Integer.MIN_VALUE, -1, 0, 1, Integer.MAX_VALUE};
        return pick(0, 9) == 0 ? edges[pick(0, 4)] : pick(0, spread * spread / 2 + 2);
    }

    private int needed() {
        int[] edges = {Integer.MIN_VALUE, -1, 0, 24, 25, Integer.MAX_VALUE};
        return pick(0, 9) == 0 ? edges[pick(0, 5)] : pick(1, 6);
    }

    private void change(String where, int spread, int greed) {
        int kind = pick(0, 3 + greed);
        int place = pick(-1, 24);
        int x = coordinate(spread);
        int y = coordinate(spread);
        if (kind == 0) {
            Due.is(where + "remove(" + place + ")", tree.remove(place), modelRemove(place));
        } else if (kind == 1) {
            Due.is(where + "move(" + place + ", " + x + ", " + y + ")",
                tree.move(place, x, y), modelMove(place, x, y));
        } else {
            Due.is(where + "add(" + x + ", " + y + ")", tree.add(x, y), modelAdd(x, y));
        }
    }

    private void ask(String where, int spread) {
        int x = askedCoordinate(spread);
        int y = askedCoordinate(spread);
        int place = pick(-1, 24);
        int r2 = radius(spread);
        int m = needed();
        String dense = "(" + r2 + ", " + m + ")";
        switch (pick(0, 7)) {
            case 0 -> Due.is(where + "size()", tree.size(), model.size());
            case 1 -> Due.is(where + "nearest(" + x + ", " + y + ", " + place + ")",
                tree.nearest(x, y, place), modelNearest(x, y, place));
            case 2 -> Due.is(where + "within(" + x + ", " + y + ", " + r2 + ")",
                tree.within(x, y, r2), modelWithin(x, y, r2));
            case 3 -> askBox(where, x, y, spread);
            case 4 -> Due.is(where + "closest()", tree.closest(), modelClosest());
            case 5 -> Due.is(where + "clusters" + dense, tree.clusters(r2, m), modelClusters(r2, m).size());
            case 6 -> Due.is(where + "clusterOf " + place + " " + dense,
                tree.clusterOf(place, r2, m), modelClusterOf(place, r2, m));
            default -> Due.is(where + "noise" + dense, tree.noise(r2, m), modelNoise(r2, m));
        }
    }

    private void askBox(String where, int left, int bottom, int spread) {
        int right = askedCoordinate(spread);
        int top = askedCoordinate(spread);
        long want = model.values().stream()
            .filter(p -> !(p[0] < left || p[0] > right || p[1] < bottom || p[1] > top)).count();
        Due.is(where + "inBox(" + left + ", " + right + ", " + bottom + ", " + top + ")",
            tree.inBox(left, right, bottom, top), want);
    }

    private static boolean fits(int x, int y, int limit) {
        return Math.abs((long) x) <= limit && Math.abs((long) y) <= limit;
    }

    private static long distance(int[] point, int x, int y) {
        long across = (long) point[0] - x;
        long up = (long) point[1] - y;
        return across * across + up * up;
    }

    private int modelAdd(int x, int y) {
        for (int place = 0; place < 24; place++) {
            if (!model.containsKey(place)) {
                if (!fits(x, y, 100)) {
                    return NearTree.BAD;
                }
                model.put(place, new int[] {x, y});
                return place;
            }
        }
        return NearTree.FULL;
    }

    private int modelRemove(int place) {
        return model.remove(place) == null ? NearTree.BAD : model.size();
    }

    private long modelMove(int place, int x, int y) {
        if (!model.containsKey(place) || !fits(x, y, 100)) {
            return NearTree.BAD;
        }
        return distance(model.put(place, new int[] {x, y}), x, y);
    }

    private int modelNearest(int x, int y, int k) {
        if (!fits(x, y, 200)) {
            return NearTree.BAD;
        }
        List<Integer> ranked = new ArrayList<>(model.keySet());
        ranked.sort(Comparator.comparingLong(place -> distance(model.get(place), x, y)));
        return k < 0 || k >= ranked.size() ? NearTree.NONE : ranked.get(k);
    }

    private long modelWithin(int x, int y, int r2) {
        return fits(x, y, 200) ? near(x, y, r2).size() : NearTree.BAD;
    }

    private List<Integer> near(int x, int y, int r2) {
        return model.keySet().stream().filter(place -> distance(model.get(place), x, y) <= r2).toList();
    }

    private List<Integer> nearPlace(int place, int r2) {
        return near(model.get(place)[0], model.get(place)[1], r2);
    }

    private long modelClosest() {
        long least = Long.MAX_VALUE;
        for (int one : model.keySet()) {
            for (int other : model.keySet()) {
                if (one != other) {
                    least = Math.min(least, distance(model.get(one), model.get(other)[0], model.get(other)[1]));
                }
            }
        }
        return model.size() < 2 ? NearTree.NONE : least;
    }

    private TreeSet<Integer> densePlaces(int r2, int m) {
        TreeSet<Integer> found = new TreeSet<>();
        for (int place : model.keySet()) {
            if (nearPlace(place, r2).size() >= m) {
                found.add(place);
            }
        }
        return found;
    }

    private List<TreeSet<Integer>> modelClusters(int r2, int m) {
        TreeSet<Integer> left = densePlaces(r2, m);
        List<TreeSet<Integer>> found = new ArrayList<>();
        while (!left.isEmpty()) {
            TreeSet<Integer> members = new TreeSet<>();
            ArrayDeque<Integer> waiting = new ArrayDeque<>();
            waiting.add(left.pollFirst());
            while (!waiting.isEmpty()) {
                int place = waiting.remove();
                members.add(place);
                for (int next : nearPlace(place, r2)) {
                    if (left.remove(next)) {
                        waiting.add(next);
                    }
                }
            }
            found.add(members);
        }
        return found;
    }

    private int modelClusterOf(int place, int r2, int m) {
        if (!model.containsKey(place)) {
            return NearTree.BAD;
        }
        for (TreeSet<Integer> members : modelClusters(r2, m)) {
            if (members.contains(place)) {
                return members.first();
            }
        }
        return NearTree.NONE;
    }

    private int modelNoise(int r2, int m) {
        TreeSet<Integer> saved = densePlaces(r2, m);
        for (int place : densePlaces(r2, m)) {
            saved.addAll(nearPlace(place, r2));
        }
        return model.size() - saved.size();
    }
}
