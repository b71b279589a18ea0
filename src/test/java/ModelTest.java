import java.util.ArrayList;
import java.util.Arrays;
import java.util.List;

// Long runs of calls from a fixed sequence of numbers, against a model that works by other means
// than the class: components for the rank, shortest paths for through, sets of sums for level.
public final class ModelTest {
    private static final int NO_PATH = 1 << 20;

    private static int wrong = 0;
    private static long seed = 20261115L;

    private final List<int[]> edges = new ArrayList<>();

    private static int next(int bound) {
        seed = seed * 6364136223846793005L + 1442695040888963407L;
        return (int) ((seed >>> 33) % bound);
    }

    private static void due(String what, long got, long want) {
        if (got != want) {
            wrong++;
            System.out.println(what + " answered " + got + ", due is " + want);
        }
    }

    private int components(int without) {
        int[] of = new int[7];
        for (int v = 0; v < 7; v++) {
            of[v] = v;
        }
        int count = 7;
        for (int i = 0; i < edges.size(); i++) {
            int a = of[edges.get(i)[0]];
            int b = of[edges.get(i)[1]];
            if (i != without && a != b) {
                count--;
                for (int v = 0; v < 7; v++) {
                    if (of[v] == a) {
                        of[v] = b;
                    }
                }
            }
        }
        return count;
    }

    private int rank() {
        return edges.size() - 7 + components(-1);
    }

    private int bridges() {
        int count = 0;
        for (int i = 0; i < edges.size(); i++) {
            if (components(i) > components(-1)) {
                count++;
            }
        }
        return count;
    }

    private int through(int e) {
        if (e < 0 || e >= edges.size()) {
            return CycleBasis.NO_EDGE;
        }
        int[] distance = new int[7];
        Arrays.fill(distance, NO_PATH);
        distance[edges.get(e)[0]] = 0;
        for (int round = 0; round < 7; round++) {
            for (int i = 0; i < edges.size(); i++) {
                if (i != e) {
                    int[] f = edges.get(i);
                    distance[f[0]] = Math.min(distance[f[0]], distance[f[1]] + f[2]);
                    distance[f[1]] = Math.min(distance[f[1]], distance[f[0]] + f[2]);
                }
            }
        }
        int back = distance[edges.get(e)[1]];
        return back >= NO_PATH ? CycleBasis.NONE : back + edges.get(e)[2];
    }

    private boolean closed(int mask) {
        int[] degree = new int[7];
        for (int bit = 0; bit < 32; bit++) {
            if (((mask >> bit) & 1) == 1) {
                if (bit >= edges.size()) {
                    return false;
                }
                degree[edges.get(bit)[0]]++;
                degree[edges.get(bit)[1]]++;
            }
        }
        for (int d : degree) {
            if (d % 2 != 0) {
                return false;
            }
        }
        return true;
    }

    private int weight(int mask) {
        int sum = 0;
        for (int i = 0; i < edges.size(); i++) {
            sum += ((mask >> i) & 1) * edges.get(i)[2];
        }
        return sum;
    }

    // For every set the least w such that it is a sum of closed sets of weight at most w each;
    // -1 for a set that is not closed.
    private int[] levels() {
        int size = 1 << edges.size();
        int[] level = new int[size];
        Arrays.fill(level, -1);
        level[0] = 0;
        List<Integer> sets = new ArrayList<>();
        for (int mask = 1; mask < size; mask++) {
            if (closed(mask)) {
                sets.add(mask);
            }
        }
        sets.sort((a, b) -> Integer.compare(weight(a), weight(b)));
        List<Integer> sums = new ArrayList<>(List.of(0));
        for (int set : sets) {
            if (level[set] < 0) {
                for (int sum : new ArrayList<>(sums)) {
                    level[sum ^ set] = weight(set);
                    sums.add(sum ^ set);
                }
            }
        }
        return level;
    }

    // With d independent sets of weight at most w there are 2^d closed sets of level at most w, so
    // that part k is the least level that more than 2^k closed sets keep to.
    private static List<Integer> parts(int[] level) {
        int[] sorted = Arrays.stream(level).filter(l -> l >= 0).sorted().toArray();
        List<Integer> parts = new ArrayList<>();
        for (int k = 1; k < sorted.length; k *= 2) {
            parts.add(sorted[k]);
        }
        return parts;
    }

    // The weight of a least basis, from the term's own words: of all lists of as many closed sets
    // as the rank says, no sum of which is empty, the one that weighs least.
    private int leastBasisByTrial() {
        List<Integer> sets = new ArrayList<>();
        for (int mask = 1; mask < 1 << edges.size(); mask++) {
            if (closed(mask)) {
                sets.add(mask);
            }
        }
        int rank = rank();
        int best = NO_PATH;
        for (int choice = 0; choice < 1 << sets.size(); choice++) {
            if (Integer.bitCount(choice) == rank && independent(sets, choice)) {
                int sum = 0;
                for (int i = 0; i < sets.size(); i++) {
                    sum += ((choice >> i) & 1) * weight(sets.get(i));
                }
                best = Math.min(best, sum);
            }
        }
        return best;
    }

    private static boolean independent(List<Integer> sets, int choice) {
        for (int some = choice; some != 0; some = (some - 1) & choice) {
            int sum = 0;
            for (int i = 0; i < sets.size(); i++) {
                if (((some >> i) & 1) == 1) {
                    sum ^= sets.get(i);
                }
            }
            if (sum == 0) {
                return false;
            }
        }
        return true;
    }

    private void compare(CycleBasis x, String where) {
        int[] level = levels();
        List<Integer> parts = parts(level);
        int total = 0;
        for (int p : parts) {
            total += p;
        }
        due(where + "rank()", x.rank(), rank());
        due(where + "total()", x.total(), total);
        if (rank() <= 4) {
            due(where + "total(), by trial", x.total(), leastBasisByTrial());
        }
        due(where + "bridges()", x.bridges(), bridges());
        for (int i = -1; i < 13; i++) {
            int want = i >= 0 && i < parts.size() ? parts.get(i) : CycleBasis.NONE;
            due(where + "part(" + i + ")", x.part(i), want);
        }
        for (int e = -1; e < 13; e++) {
            due(where + "through(" + e + ")", x.through(e), through(e));
        }
        for (int k = 0; k < 20; k++) {
            int mask = k < 10 ? next(level.length) : nextClosed(level);
            if (k == 0) {
                mask = next(1 << 30) * 4 + next(4);
            }
            boolean isClosed = closed(mask);
            due(where + "closed(" + mask + ")", x.closed(mask) ? 1 : 0, isClosed ? 1 : 0);
            due(where + "level(" + mask + ")", x.level(mask), isClosed ? level[mask] : CycleBasis.NONE);
        }
    }

    private static int nextClosed(int[] level) {
        int mask = next(level.length);
        while (level[mask] < 0) {
            mask = (mask + 1) % level.length;
        }
        return mask;
    }

    private void add(CycleBasis x, String where, int vertices, int heaviest) {
        int u = next(vertices);
        int v = next(vertices);
        int weight = 1 + next(heaviest);
        int want = u == v ? CycleBasis.BAD_VERTEX : edges.size() == 12 ? CycleBasis.FULL : edges.size();
        due(where + "edge(" + u + ", " + v + ", " + weight + ")", x.edge(u, v, weight), want);
        if (want >= 0) {
            edges.add(new int[] {u, v, weight});
        }
    }

    private void reweigh(CycleBasis x, String where, int heaviest) {
        int e = next(13);
        int weight = 1 + next(heaviest);
        int want = e < edges.size() ? edges.get(e)[2] : CycleBasis.NO_EDGE;
        due(where + "reweigh(" + e + ", " + weight + ")", x.reweigh(e, weight), want);
        if (want >= 0) {
            edges.get(e)[2] = weight;
        }
    }

    private void drop(CycleBasis x, String where) {
        int want = edges.isEmpty() ? CycleBasis.NO_EDGE : edges.size() - 1;
        due(where + "dropLast()", x.dropLast(), want);
        if (want >= 0) {
            edges.remove(want);
        }
    }

    private void run(int number) {
        CycleBasis x = new CycleBasis();
        String where = "run " + number + ": ";
        int vertices = 2 + next(6);
        int heaviest = new int[] {1, 3, 10, 100}[next(4)];
        int start = next(20);
        for (int i = 0; i < start; i++) {
            add(x, where, vertices, heaviest);
        }
        // Six comparisons of at most 72 calls keep the run below the 512 calls of an object.
        for (int step = 0; step < 6; step++) {
            compare(x, where);
            int kind = next(4);
            if (kind < 2) {
                add(x, where, vertices, heaviest);
            } else if (kind == 2) {
                reweigh(x, where, heaviest);
            } else {
                drop(x, where);
            }
        }
    }

    public static void main(String[] args) {
        for (int number = 0; number < 300; number++) {
            new ModelTest().run(number);
        }
        if (wrong != 0) {
            System.out.println(wrong + " answers are not as due");
            System.exit(1);
        }
    }
}
