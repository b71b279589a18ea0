/**
 * Cycles of a weighted graph with at most seven vertices and at most twelve edges.
 *
 * A set of edges is an int: bit e stands for edge number e. The sum of two sets is then their
 * exclusive or. There are at most 4096 sets, few enough for each question to look at them all.
 */
public final class CycleBasis {
    public static final int BAD_VERTEX = -1;
    public static final int BAD_WEIGHT = -2;
    public static final int FULL = -3;
    public static final int NO_EDGE = -4;
    public static final int NONE = -5;

    private static final int MAX_VERTICES = 7;
    private static final int MAX_EDGES = 12;
    private static final int MAX_WEIGHT = 100;
    private static final int MAX_SETS = 4096;

    private int edgeCount = 0;

    /** The two vertices of each edge, as bits: the sum over a set's edges has its odd vertices. */
    private final int[] ends = new int[MAX_EDGES];
    private final int[] weights = new int[MAX_EDGES];

    // The fields below are scratch: a call fills them for itself, and none relies on what an
    // earlier one left there.

    /** The closed sets that are not empty. */
    private final int[] closedSets = new int[MAX_SETS];
    private int closedCount = 0;

    /** The span of the sets chosen so far: rows[b] is 0 or a set whose greatest edge is b. */
    private final int[] rows = new int[MAX_EDGES];

    public CycleBasis() {
    }

    public int edge(int u, int v, int weight) {
        if (!isVertex(u) || !isVertex(v) || u == v) {
            return BAD_VERTEX;
        }
        if (!isWeight(weight)) {
            return BAD_WEIGHT;
        }
        if (edgeCount >= MAX_EDGES) {
            return FULL;
        }
        int number = edgeCount;
        ends[number] = (1 << u) | (1 << v);
        weights[number] = weight;
        edgeCount = number + 1;
        return number;
    }

    public int reweigh(int e, int weight) {
        if (!isEdge(e)) {
            return NO_EDGE;
        }
        if (!isWeight(weight)) {
            return BAD_WEIGHT;
        }
        int old = weights[e];
        weights[e] = weight;
        return old;
    }

    public int dropLast() {
        if (edgeCount == 0) {
            return NO_EDGE;
        }
        edgeCount = edgeCount - 1;
        return edgeCount;
    }

    public int rank() {
        int size = 0;
        startSpan();
        for (int round = 0; round < MAX_EDGES; round++) {
            if (growSpan() > 0) {
                size++;
            }
        }
        return size;
    }

    public int total() {
        int sum = 0;
        startSpan();
        for (int round = 0; round < MAX_EDGES; round++) {
            sum += growSpan();
        }
        return sum;
    }

    public int part(int i) {
        // No rank is above the number of edges; this also keeps the loop short for a huge i.
        if (i < 0 || i >= MAX_EDGES) {
            return NONE;
        }
        int weight = 0;
        startSpan();
        for (int round = 0; round <= i; round++) {
            weight = growSpan();
        }
        return weight > 0 ? weight : NONE;
    }

    public int through(int e) {
        if (!isEdge(e)) {
            return NO_EDGE;
        }
        int best = 0;
        gatherClosedSets();
        for (int k = 0; k < closedCount; k++) {
            int set = closedSets[k];
            if (has(set, e)) {
                int weight = weightOf(set);
                if (best == 0 || weight < best) {
                    best = weight;
                }
            }
        }
        return best > 0 ? best : NONE;
    }

    public boolean closed(int mask) {
        return hasOnlyEdges(mask) && isClosed(mask);
    }

    public int level(int mask) {
        if (!hasOnlyEdges(mask) || !isClosed(mask)) {
            return NONE;
        }
        // The sets chosen so far span all closed sets lighter than the last one chosen, so the
        // first choice that brings the set into the span has the weight that is asked for.
        int weight = 0;
        startSpan();
        for (int round = 0; round < MAX_EDGES && remainder(mask) != 0; round++) {
            weight = growSpan();
        }
        return weight;
    }

    public int bridges() {
        int covered = 0;
        gatherClosedSets();
        for (int k = 0; k < closedCount; k++) {
            covered |= closedSets[k];
        }
        int count = 0;
        for (int e = 0; e < edgeCount; e++) {
            if (!has(covered, e)) {
                count++;
            }
        }
        return count;
    }

    private static boolean isVertex(int v) {
        return v >= 0 && v < MAX_VERTICES;
    }

    private static boolean isWeight(int weight) {
        return weight >= 1 && weight <= MAX_WEIGHT;
    }

    private static boolean has(int set, int e) {
        return ((set >> e) & 1) == 1;
    }

    private boolean isEdge(int e) {
        return e >= 0 && e < edgeCount;
    }

    private boolean hasOnlyEdges(int mask) {
        // The unsigned shift keeps bit 31 in sight.
        return (mask >>> edgeCount) == 0;
    }

    private boolean isClosed(int set) {
        int oddVertices = 0;
        for (int e = 0; e < edgeCount; e++) {
            if (has(set, e)) {
                oddVertices ^= ends[e];
            }
        }
        return oddVertices == 0;
    }

    private int weightOf(int set) {
        int sum = 0;
        for (int e = 0; e < edgeCount; e++) {
            if (has(set, e)) {
                sum += weights[e];
            }
        }
        return sum;
    }

    private void gatherClosedSets() {
        int count = 0;
        int end = 1 << edgeCount;
        for (int set = 1; set < end; set++) {
            if (isClosed(set)) {
                closedSets[count] = set;
                count++;
            }
        }
        closedCount = count;
    }

    private void startSpan() {
        gatherClosedSets();
        for (int b = 0; b < MAX_EDGES; b++) {
            rows[b] = 0;
        }
    }

    /** What is left of a set when rows are taken from it; 0 just if the set is in the span. */
    private int remainder(int set) {
        int rest = set;
        for (int b = MAX_EDGES - 1; b >= 0; b--) {
            if (has(rest, b)) {
                // A row that is 0 leaves the bit, and no later row can take it away.
                rest ^= rows[b];
            }
        }
        return rest;
    }

    /**
     * Adds a lightest closed set outside the span to it and answers the set's weight; 0 if the
     * span has every closed set. Independent sets form a matroid, so that growing from the empty
     * span makes a least basis, its weights in ascending order.
     */
    private int growSpan() {
        int set = lightestOutsideSpan();
        if (set == 0) {
            return 0;
        }
        int row = remainder(set);
        int top = greatestEdge(row);
        rows[top] = row;
        return weightOf(set);
    }

    /** A lightest closed set that is not in the span; 0 if there is none. */
    private int lightestOutsideSpan() {
        int best = 0;
        int bestWeight = 0;
        for (int k = 0; k < closedCount; k++) {
            int set = closedSets[k];
            if (remainder(set) != 0) {
                int weight = weightOf(set);
                if (best == 0 || weight < bestWeight) {
                    best = set;
                    bestWeight = weight;
                }
            }
        }
        return best;
    }

    private static int greatestEdge(int set) {
        int greatest = 0;
        for (int e = 0; e < MAX_EDGES; e++) {
            if (has(set, e)) {
                greatest = e;
            }
        }
        return greatest;
    }
}
