import java.util.ArrayList;
import java.util.Arrays;
import java.util.List;
import java.util.function.Consumer;
import java.util.function.Supplier;

// One test for each sentence of the document that names a boundary case, with inputs on both sides
// of the boundary. A refused call is also followed by a look at everything that later calls answer.
public final class BoundaryTest {
    private static final int BAD_VERTEX = CycleBasis.BAD_VERTEX;
    private static final int BAD_WEIGHT = CycleBasis.BAD_WEIGHT;
    private static final int FULL = CycleBasis.FULL;
    private static final int NO_EDGE = CycleBasis.NO_EDGE;
    private static final int NONE = CycleBasis.NONE;

    private static final int MIN = Integer.MIN_VALUE;
    private static final int MAX = Integer.MAX_VALUE;

    // Beside the neighbours of 0 and 6: numbers that a shift, a byte or a short would take for a
    // vertex.
    private static final int[] NOT_VERTICES = {
        -1, 7, 8, -6, 31, 32, 38, -32, -26, 64, 128, 256, 262, -256, 65536, -65536, MIN, MIN + 1, MAX
    };
    private static final int[] NOT_WEIGHTS = {
        0, 101, -1, 102, -100, 127, 128, 255, 256, 257, 356, -255, 65537, -65535, MIN, MIN + 1, MAX
    };
    private static final int[] FAR_NUMBERS = {
        -1, -2, -12, 12, 13, 31, 32, 33, 43, 64, -32, -31, 256, 257, -256, 65536, -65536, MIN, MIN + 1, MAX
    };

    private static final List<Supplier<Run>> STARTS = List.of(
        Run::new, () -> bundle(1), BoundaryTest::tailed, BoundaryTest::dropped, BoundaryTest::wheel);

    // Each row: u, v, weight. Triangles {0,1,4} and {2,3,4}, square {0,1,2,3}, bridge 5.
    private static final int[][] TAILED = {
        {0, 1, 1}, {1, 2, 2}, {2, 3, 4}, {3, 0, 5}, {0, 2, 5}, {3, 4, 7}
    };
    // Spokes 0 to 5 from vertex 6, rim 6 to 11.
    private static final int[][] WHEEL = {
        {6, 0, 10}, {6, 1, 10}, {6, 2, 10}, {6, 3, 10}, {6, 4, 10}, {6, 5, 10},
        {0, 1, 1}, {1, 2, 1}, {2, 3, 1}, {3, 4, 1}, {4, 5, 1}, {5, 0, 1}
    };

    private static int wrong = 0;
    private static String sentence = "";

    private static void tell(String what) {
        wrong++;
        System.out.println(sentence + " | " + what);
    }

    // An object with its calls counted, as nothing is promised about it after the 512th.
    private static final class Run {
        private final CycleBasis x = new CycleBasis();
        private int calls = 0;

        private Run due(String call, int got, int want) {
            calls++;
            if (calls > 512) {
                tell("the test itself makes more than 512 calls");
            }
            if (got != want) {
                tell("call " + calls + ", " + call + ", answered " + got + ", due is " + want);
            }
            return this;
        }

        Run edge(int u, int v, int weight, int want) {
            return due("edge(" + u + ", " + v + ", " + weight + ")", x.edge(u, v, weight), want);
        }

        Run reweigh(int e, int weight, int want) {
            return due("reweigh(" + e + ", " + weight + ")", x.reweigh(e, weight), want);
        }

        Run dropLast(int want) {
            return due("dropLast()", x.dropLast(), want);
        }

        Run rank(int want) {
            return due("rank()", x.rank(), want);
        }

        Run total(int want) {
            return due("total()", x.total(), want);
        }

        Run part(int i, int want) {
            return due("part(" + i + ")", x.part(i), want);
        }

        Run through(int e, int want) {
            return due("through(" + e + ")", x.through(e), want);
        }

        Run closed(int mask, boolean want) {
            return due("closed(" + mask + ")", x.closed(mask) ? 1 : 0, want ? 1 : 0);
        }

        Run level(int mask, int want) {
            return due("level(" + mask + ")", x.level(mask), want);
        }

        Run bridges(int want) {
            return due("bridges()", x.bridges(), want);
        }

        // The edges are still these, told by the calls that change something and by closed. A twin
        // that is asked the same questions could not tell what a question changes.
        void isStill(int[][] edges) {
            int size = edges.length;
            for (int e = 0; e < size; e++) {
                reweigh(e, edges[e][2], edges[e][2]);
            }
            reweigh(size, 1, NO_EDGE);
            for (int mask = 0; mask < 1 << size; mask++) {
                if (Integer.bitCount(mask) == 2 || Integer.bitCount(mask) == 3) {
                    closed(mask, isEven(edges, mask));
                }
            }
            for (int e = 0; e < size && size < 12; e++) {
                edge(edges[e][0], edges[e][1], 1, size).closed(1 << e | 1 << size, true).dropLast(size);
            }
            for (int left = size - 1; left >= 0; left--) {
                dropLast(left);
            }
            dropLast(NO_EDGE);
        }

        private static boolean isEven(int[][] edges, int mask) {
            int[] count = new int[7];
            for (int e = 0; e < edges.length; e++) {
                count[edges[e][0]] += (mask >> e) & 1;
                count[edges[e][1]] += (mask >> e) & 1;
            }
            return Arrays.stream(count).allMatch(c -> c % 2 == 0);
        }

        // What later calls answer, down to the empty graph and one edge up again: objects with
        // other edges, weights or numbers differ somewhere in it.
        List<String> later() {
            List<String> told = new ArrayList<>();
            questions(told);
            told.add("edge(0, 6, 3) " + x.edge(0, 6, 3));
            for (int e = 0; e < 12; e++) {
                told.add("reweigh(" + e + ", " + (20 + 5 * e) + ") " + x.reweigh(e, 20 + 5 * e));
            }
            for (int e = 0; e < 12; e++) {
                told.add("through(" + e + ") " + x.through(e));
            }
            for (int k = 0; k < 14; k++) {
                told.add("total() " + x.total());
                told.add("bridges() " + x.bridges());
                told.add("dropLast() " + x.dropLast());
            }
            told.add("edge(1, 2, 9) " + x.edge(1, 2, 9));
            told.add("reweigh(0, 8) " + x.reweigh(0, 8));
            calls += told.size();
            if (calls > 512) {
                tell("the test itself makes more than 512 calls");
            }
            return told;
        }

        private void questions(List<String> told) {
            told.add("rank() " + x.rank());
            told.add("total() " + x.total());
            told.add("bridges() " + x.bridges());
            for (int i = -1; i < 13; i++) {
                told.add("part(" + i + ") " + x.part(i));
                told.add("through(" + i + ") " + x.through(i));
            }
            for (int mask = 0; mask < 64; mask++) {
                told.add("closed(" + mask + ") " + x.closed(mask));
            }
            int[] masks = {0, 3, 7, 15, 19, 28, 63, 67, 134, 0xC00, 0xFC0, 0xFFF, 0x1FFF, -1, MIN};
            for (int mask : masks) {
                told.add("closed(" + mask + ") " + x.closed(mask));
                told.add("level(" + mask + ") " + x.level(mask));
            }
        }
    }

    // The refused call answers what is due by itself; here the answers after it are those of an
    // object that it was never made on.
    private static void changesNothing(Supplier<Run> start, Consumer<Run> call) {
        Run with = start.get();
        call.accept(with);
        List<String> got = with.later();
        List<String> want = start.get().later();
        for (int k = 0; k < want.size(); k++) {
            if (!got.get(k).equals(want.get(k))) {
                tell("after the call: " + got.get(k) + ", without it: " + want.get(k));
                return;
            }
        }
    }

    private static void changesNothingAnywhere(Consumer<Run> call) {
        for (Supplier<Run> start : STARTS) {
            changesNothing(start, call);
        }
    }

    // Edges between the same two vertices, edge e with weight e + 1: any two of them are a cycle.
    private static Run bundle(int size) {
        Run r = new Run();
        for (int e = 0; e < size; e++) {
            r.edge(e % 2 == 0 ? 3 : 5, e % 2 == 0 ? 5 : 3, e + 1, e);
        }
        return r;
    }

    // The lightest edges last, so that the lightest closed sets have the greatest masks.
    private static Run fallingBundle() {
        Run r = new Run();
        for (int e = 0; e < 12; e++) {
            r.edge(0, 6, 12 - e, e);
        }
        return r;
    }

    // Triangles {0,1,4} of weight 3 + w and {2,3,4} of weight 9 + w, square {0,1,2,3} of weight 12.
    private static Run diamond(int w) {
        return new Run().edge(0, 1, 1, 0).edge(1, 2, 2, 1).edge(2, 3, 4, 2).edge(3, 0, 5, 3).edge(0, 2, w, 4);
    }

    private static Run of(int[][] edges) {
        Run r = new Run();
        for (int e = 0; e < edges.length; e++) {
            r.edge(edges[e][0], edges[e][1], edges[e][2], e);
        }
        return r;
    }

    // diamond(5) with a bridge behind it.
    private static Run tailed() {
        return of(TAILED);
    }

    // Nine edges, with the ends and weights of three others left behind them.
    private static Run dropped() {
        return wheel().dropLast(11).dropLast(10).dropLast(9);
    }

    private static Run wheel() {
        return of(WHEEL);
    }

    // A path over all seven vertices, edge v from v to v + 1.
    private static Run path(int weight) {
        Run r = new Run();
        for (int v = 0; v < 6; v++) {
            r.edge(v, v + 1, weight, v);
        }
        return r;
    }

    // ---- What it is, Terms ----

    private static void allSevenVertices() {
        Run r = path(100).rank(0).bridges(6).edge(6, 0, 100, 6);
        r.rank(1).total(700).part(0, 700).closed(127, true).level(127, 700).bridges(0);
        for (int e = 0; e < 7; e++) {
            r.through(e, 700).closed(127 ^ (1 << e), false);
        }
        // No two vertices are taken for the same one: a pair of edges is closed just if both agree.
        for (int u = 0; u < 7; u++) {
            for (int v = 0; v < 7; v++) {
                if (u != v) {
                    new Run().edge(u, v, 1, 0).edge(0, 1, 1, 1).closed(3, u + v == 1);
                    new Run().edge(u, v, 1, 0).edge(5, 6, 1, 1).closed(3, u + v == 11);
                }
            }
        }
    }

    private static void severalEdges() {
        Run r = new Run().edge(0, 1, 1, 0).rank(0);
        r.edge(0, 1, 1, 1).rank(1).total(2).edge(1, 0, 1, 2).rank(2).total(4).bridges(0);
        r.closed(3, true).closed(5, true).closed(6, true).closed(7, false);
    }

    private static void upToTheLastCall() {
        List<Consumer<Run>> last = List.of(
            r -> r.edge(4, 5, 1, 5), r -> r.edge(4, 4, 1, BAD_VERTEX), r -> r.edge(4, 5, 0, BAD_WEIGHT),
            r -> r.reweigh(4, 9, 5), r -> r.reweigh(5, 9, NO_EDGE), r -> r.dropLast(4),
            r -> r.rank(2), r -> r.total(20), r -> r.part(1, 12), r -> r.part(2, NONE), r -> r.through(4, 8),
            r -> r.closed(15, true), r -> r.level(28, 12), r -> r.bridges(0));
        for (Consumer<Run> call : last) {
            Run r = diamond(5);
            for (int k = 0; k < 100; k++) {
                r.edge(3, 6, 50, 5).bridges(1).dropLast(5).reweigh(4, 5, 5).total(20);
            }
            for (int k = 0; k < 3; k++) {
                r.edge(0, 2, 1, 5).dropLast(5);
            }
            call.accept(r);
            if (r.calls != 512) {
                tell("the test itself ends with call " + r.calls);
            }
        }
    }

    private static void emptySetIsClosed() {
        new Run().closed(0, true).closed(1, false);
        bundle(1).closed(0, true).closed(1, false);
        path(1).closed(0, true).closed(1, false);
        bundle(12).closed(0, true).closed(1, false);
    }

    private static void questionsChangeNothing() {
        List<Consumer<CycleBasis>> questions = List.of(
            CycleBasis::rank, CycleBasis::total, CycleBasis::bridges,
            x -> x.part(0), x -> x.part(1), x -> x.part(-1), x -> x.part(11), x -> x.part(12), x -> x.part(MAX),
            x -> x.through(0), x -> x.through(4), x -> x.through(5), x -> x.through(-1), x -> x.through(12),
            x -> x.closed(0), x -> x.closed(19), x -> x.closed(1), x -> x.closed(0xFC0), x -> x.closed(-1),
            x -> x.level(0), x -> x.level(19), x -> x.level(28), x -> x.level(1), x -> x.level(0xFC0),
            x -> x.level(-1));
        for (Consumer<CycleBasis> question : questions) {
            asked(new Run(), question).isStill(new int[0][]);
            asked(bundle(1), question).isStill(new int[][] {{3, 5, 1}});
            asked(tailed(), question).isStill(TAILED);
            asked(dropped(), question).isStill(Arrays.copyOf(WHEEL, 9));
            asked(wheel(), question).isStill(WHEEL);
        }
    }

    private static Run asked(Run r, Consumer<CycleBasis> question) {
        question.accept(r.x);
        question.accept(r.x);
        r.calls += 2;
        return r;
    }

    // ---- Promise 1 ----

    // Each call is the first one on its object.
    private static void noEdges() {
        new Run().rank(0);
        new Run().total(0);
        new Run().part(0, NONE);
        new Run().through(0, NO_EDGE);
        new Run().closed(0, true);
        new Run().closed(1, false);
        new Run().level(0, 0);
        new Run().level(1, NONE);
        new Run().bridges(0);
        new Run().reweigh(0, 1, NO_EDGE);
        new Run().dropLast(NO_EDGE);
        new Run().edge(0, 1, 1, 0);
    }

    private static void noEdgesOfAnotherObject() {
        Run full = bundle(12);
        Run fresh = new Run();
        fresh.bridges(0).rank(0).closed(3, false).dropLast(NO_EDGE).edge(0, 1, 1, 0).bridges(1);
        full.rank(11).bridges(0).dropLast(11);
    }

    // ---- Promise 2 ----

    private static void firstVertexOutside() {
        for (int u : NOT_VERTICES) {
            new Run().edge(u, 3, 1, BAD_VERTEX).edge(u, 0, 100, BAD_VERTEX).edge(u, 6, 50, BAD_VERTEX);
        }
        for (int u = 0; u < 6; u++) {
            new Run().edge(u, 6, 1, 0);
        }
        new Run().edge(6, 0, 1, 0);
    }

    private static void secondVertexOutside() {
        for (int v : NOT_VERTICES) {
            new Run().edge(3, v, 1, BAD_VERTEX).edge(0, v, 100, BAD_VERTEX).edge(6, v, 50, BAD_VERTEX);
        }
        for (int v = 0; v < 6; v++) {
            new Run().edge(6, v, 1, 0);
        }
        new Run().edge(0, 6, 1, 0);
    }

    private static void sameVertex() {
        for (int u = 0; u < 7; u++) {
            for (int v = 0; v < 7; v++) {
                new Run().edge(u, v, 1, u == v ? BAD_VERTEX : 0);
            }
        }
        for (int v : NOT_VERTICES) {
            new Run().edge(v, v, 1, BAD_VERTEX);
        }
    }

    private static void badVertexChangesNothing() {
        for (int v : NOT_VERTICES) {
            changesNothingAnywhere(r -> r.edge(v, 2, 9, BAD_VERTEX));
            changesNothingAnywhere(r -> r.edge(2, v, 9, BAD_VERTEX));
        }
        for (int v = 0; v < 7; v++) {
            int both = v;
            changesNothingAnywhere(r -> r.edge(both, both, 9, BAD_VERTEX));
        }
    }

    private static void edgeWeightOutside() {
        for (int weight : NOT_WEIGHTS) {
            new Run().edge(0, 1, weight, BAD_WEIGHT).edge(6, 5, weight, BAD_WEIGHT);
        }
        new Run().edge(0, 1, 1, 0).edge(0, 1, 100, 1).total(101);
        for (int weight = 1; weight <= 100; weight++) {
            new Run().edge(0, 1, weight, 0).edge(1, 0, 1, 1).total(weight + 1);
        }
    }

    private static void badEdgeWeightChangesNothing() {
        for (int weight : NOT_WEIGHTS) {
            changesNothingAnywhere(r -> r.edge(2, 4, weight, BAD_WEIGHT));
        }
    }

    private static void fullWithTwelve() {
        bundle(11).edge(3, 5, 12, 11).edge(3, 5, 13, FULL).edge(0, 1, 1, FULL);
        wheel().edge(0, 1, 1, FULL).dropLast(11).edge(0, 1, 1, 11).edge(0, 1, 1, FULL);
        for (int u = 0; u < 7; u++) {
            for (int v = 0; v < 7; v++) {
                wheel().edge(u, v, 100, u == v ? BAD_VERTEX : FULL);
            }
        }
    }

    private static void fullChangesNothing() {
        changesNothing(BoundaryTest::wheel, r -> r.edge(0, 1, 1, FULL));
        changesNothing(BoundaryTest::wheel, r -> r.edge(5, 6, 100, FULL).edge(3, 4, 2, FULL));
        changesNothing(() -> bundle(12), r -> r.edge(3, 5, 1, FULL));
        changesNothing(() -> bundle(12), r -> r.edge(0, 1, 100, FULL));
        wheel().edge(0, 2, 50, FULL).dropLast(11).rank(5).edge(5, 0, 1, 11).rank(6).total(111);
    }

    private static void answersItsNumber() {
        Run r = new Run();
        for (int e = 0; e < 12; e++) {
            r.edge(0, 0, 1, BAD_VERTEX).edge(0, 1, 0, BAD_WEIGHT).edge(e % 6, 6, 1, e);
        }
        r.edge(0, 1, 1, FULL).dropLast(11).dropLast(10).edge(1, 2, 1, 10).edge(1, 2, 1, 11).edge(1, 2, 1, FULL);
    }

    // ---- Promise 3 ----

    private static void reweighNoSuchEdge() {
        for (int size = 0; size <= 12; size++) {
            Run r = bundle(size).reweigh(size, 1, NO_EDGE).reweigh(size + 1, 1, NO_EDGE).reweigh(-1, 1, NO_EDGE);
            for (int e : FAR_NUMBERS) {
                r.reweigh(e, 50, NO_EDGE);
            }
            for (int e = 0; e < size; e++) {
                r.reweigh(e, 50, e + 1);
            }
        }
        bundle(3).dropLast(2).reweigh(2, 9, NO_EDGE).reweigh(1, 9, 2).dropLast(1).reweigh(1, 9, NO_EDGE);
        bundle(12).dropLast(11).reweigh(11, 9, NO_EDGE).edge(3, 5, 7, 11).reweigh(11, 9, 7);
    }

    private static void reweighNoSuchEdgeChangesNothing() {
        for (int e : FAR_NUMBERS) {
            changesNothingAnywhere(r -> r.reweigh(e, 77, NO_EDGE));
        }
        changesNothing(Run::new, r -> r.reweigh(0, 77, NO_EDGE));
        changesNothing(BoundaryTest::tailed, r -> r.reweigh(6, 77, NO_EDGE));
        changesNothing(BoundaryTest::dropped, r -> r.reweigh(9, 77, NO_EDGE));
    }

    private static void reweighWeightOutside() {
        for (int weight : NOT_WEIGHTS) {
            diamond(5).reweigh(0, weight, BAD_WEIGHT).reweigh(4, weight, BAD_WEIGHT);
        }
        diamond(5).reweigh(4, 100, 5).total(115).reweigh(4, 1, 100).total(14).reweigh(4, 1, 1);
    }

    private static void badReweighChangesNothing() {
        for (int weight : NOT_WEIGHTS) {
            changesNothing(BoundaryTest::tailed, r -> r.reweigh(0, weight, BAD_WEIGHT));
            changesNothing(BoundaryTest::tailed, r -> r.reweigh(5, weight, BAD_WEIGHT));
            changesNothing(BoundaryTest::dropped, r -> r.reweigh(8, weight, BAD_WEIGHT));
            changesNothing(BoundaryTest::wheel, r -> r.reweigh(11, weight, BAD_WEIGHT));
        }
    }

    private static void answersTheOldWeight() {
        Run r = new Run().edge(0, 1, 1, 0).edge(0, 1, 100, 1);
        r.reweigh(0, 100, 1).reweigh(0, 100, 100).reweigh(0, 1, 100).reweigh(1, 1, 100).reweigh(1, 2, 1);
        r.reweigh(0, 0, BAD_WEIGHT).reweigh(0, 101, BAD_WEIGHT).reweigh(0, 3, 1).reweigh(1, 3, 2).total(6);
        // An edge in the place of a dropped one has its own weight.
        r.dropLast(1).edge(0, 1, 40, 1).reweigh(1, 41, 40);
    }

    // ---- Promise 4 ----

    private static void dropFromNothing() {
        new Run().dropLast(NO_EDGE).dropLast(NO_EDGE).edge(0, 1, 1, 0).dropLast(0).dropLast(NO_EDGE);
        changesNothing(Run::new, r -> r.dropLast(NO_EDGE).dropLast(NO_EDGE));
        changesNothing(Run::new, r -> r.edge(0, 1, 1, 0).dropLast(0).dropLast(NO_EDGE));
    }

    private static void answersHowManyAreLeft() {
        Run r = bundle(12);
        for (int left = 11; left >= 0; left--) {
            r.dropLast(left).rank(left > 0 ? left - 1 : 0).through(left, NO_EDGE);
        }
        r.dropLast(NO_EDGE).edge(0, 1, 1, 0);
    }

    private static void dropsTheGreatestNumber() {
        // The last edge alone makes the cycle; then the first one is the only one left.
        diamond(5).dropLast(4).rank(1).total(12).dropLast(3).rank(0).bridges(3);
        Run r = new Run().edge(0, 1, 11, 0).edge(2, 3, 12, 1).edge(4, 5, 13, 2);
        r.dropLast(2).dropLast(1).edge(0, 1, 1, 1).closed(3, true).reweigh(0, 1, 11);
    }

    // ---- Promise 5 ----

    private static void rankFromNothingToEleven() {
        new Run().rank(0);
        path(1).rank(0).edge(6, 0, 1, 6).rank(1).dropLast(6).rank(0);
        for (int size = 1; size <= 12; size++) {
            bundle(size).rank(size - 1);
        }
        // Twelve edges on seven vertices in one piece, and in two pieces.
        wheel().rank(6);
        Run r = new Run();
        for (int e = 0; e < 12; e++) {
            r.edge(e < 6 ? 0 : 2, e < 6 ? 1 : 3, 1, e);
        }
        r.rank(10);
    }

    // ---- Promise 6 ----

    private static void totalOfRankNothing() {
        new Run().total(0);
        path(100).total(0).edge(0, 6, 100, 6).total(700).dropLast(6).total(0);
        bundle(1).total(0).edge(5, 3, 1, 1).total(2);
        bundle(2).total(3).dropLast(1).total(0).dropLast(0).total(0);
    }

    private static void totalOfManySets() {
        // Edge 0 with each other one is the least: 11 times 1, and 2 + 3 + .. + 12.
        bundle(12).total(88);
        fallingBundle().total(88);
        // Three vertices joined with each of four others: six cycles of four edges.
        Run r = new Run();
        for (int e = 0; e < 12; e++) {
            r.edge(e / 4, 3 + e % 4, 100, e);
        }
        r.rank(6).total(2400).part(5, 400).part(6, NONE);
    }

    // ---- Promise 7 ----

    private static void partOutside() {
        for (int size = 0; size <= 12; size++) {
            int rank = size > 0 ? size - 1 : 0;
            Run r = bundle(size).part(-1, NONE).part(rank, NONE).part(rank + 1, NONE);
            for (int i : FAR_NUMBERS) {
                r.part(i, NONE);
            }
            if (rank > 0) {
                r.part(0, 3).part(rank - 1, rank + 2);
            }
        }
        path(1).part(0, NONE).edge(6, 0, 1, 6).part(0, 7).part(1, NONE);
        // The bound is the rank, not the number of edges or of closed sets.
        diamond(5).part(1, 12).part(2, NONE).part(3, NONE).part(4, NONE);
    }

    private static void partsAscend() {
        Run r = bundle(12);
        Run falling = fallingBundle();
        for (int i = 0; i < 11; i++) {
            r.part(i, i + 3);
            falling.part(i, i + 3);
        }
        // Equal weights count as often as they occur.
        diamond(9).part(0, 12).part(1, 12).part(2, NONE).total(24);
        diamond(10).part(0, 12).part(1, 13);
        diamond(8).part(0, 11).part(1, 12);
        diamond(3).part(0, 6).part(1, 12);
        diamond(2).part(0, 5).part(1, 11);
    }

    // ---- Promise 8 ----

    private static void throughNoSuchEdge() {
        for (int size = 0; size <= 12; size++) {
            Run r = bundle(size).through(size, NO_EDGE).through(size + 1, NO_EDGE).through(-1, NO_EDGE);
            for (int e : FAR_NUMBERS) {
                r.through(e, NO_EDGE);
            }
            if (size > 1) {
                r.through(0, 3).through(size - 1, size + 1);
            }
        }
        bundle(3).through(2, 4).dropLast(2).through(2, NO_EDGE);
    }

    private static void throughNoClosedSet() {
        bundle(1).through(0, NONE).edge(3, 5, 9, 1).through(0, 10).dropLast(1).through(0, NONE);
        tailed().through(5, NONE).through(4, 8).through(6, NO_EDGE).edge(4, 0, 1, 6).through(5, 13);
        Run r = path(1);
        for (int e = 0; e < 6; e++) {
            r.through(e, NONE);
        }
        r.edge(6, 1, 1, 6).through(0, NONE).through(1, 6).through(6, 6);
    }

    private static void throughIsTheLeast() {
        diamond(8).through(0, 11).through(2, 12).through(4, 11);
        diamond(9).through(0, 12).through(2, 12).through(4, 12);
        diamond(10).through(0, 12).through(2, 12).through(4, 13);
        diamond(3).through(2, 12).reweigh(4, 2, 3).through(2, 11);
        new Run().edge(0, 1, 1, 0).edge(0, 1, 1, 1).through(0, 2).through(1, 2);
        path(100).edge(6, 0, 100, 6).through(0, 700).through(6, 700);
        fallingBundle().through(11, 3).through(10, 3).through(9, 4).through(0, 13);
    }

    // ---- Promise 9 ----

    private static void closedWithoutSuchAnEdge() {
        for (int size = 0; size <= 12; size++) {
            Run r = bundle(size);
            for (int bit = size; bit < 32; bit++) {
                r.closed(1 << bit, false).closed(1 << bit | 1, false).closed(1 << bit | 3, false);
                r.closed((1 << bit) | MIN, false);
            }
            r.closed(-1, false).closed(MAX, false).closed(-1 << size, false);
            if (size > 1) {
                r.closed(1 << (size - 1) | 1, true);
            }
        }
        bundle(12).closed(0xFFF, true).closed(0x1FFF, false).closed(0xFFF | MIN, false).closed(0x2FFF, false);
        // A dropped edge is no edge, and a new one in its place counts with its own ends.
        Run r = bundle(3).closed(5, true).dropLast(2).closed(5, false).closed(3, true).closed(4, false);
        r.edge(3, 4, 1, 2).closed(5, false).closed(3, true).closed(7, false);
    }

    private static void closedIsEvenEverywhere() {
        Run r = diamond(5);
        for (int mask = 0; mask < 32; mask++) {
            r.closed(mask, mask == 0 || mask == 0b10011 || mask == 0b11100 || mask == 0b01111);
        }
        Run b = bundle(12);
        for (int size = 0; size <= 12; size++) {
            b.closed((1 << size) - 1, size % 2 == 0);
        }
        // Four edges at one vertex, in two triangles.
        Run bow = new Run().edge(0, 1, 1, 0).edge(1, 2, 1, 1).edge(2, 0, 1, 2);
        bow.edge(0, 3, 1, 3).edge(3, 4, 1, 4).edge(4, 0, 1, 5);
        bow.closed(63, true).closed(7, true).closed(56, true).closed(31, false).closed(62, false);
    }

    // ---- Promise 10 ----

    private static void levelOfTheEmptySet() {
        new Run().level(0, 0);
        path(100).level(0, 0).edge(6, 0, 100, 6).level(0, 0).level(127, 700);
        for (int size = 1; size <= 12; size++) {
            bundle(size).level(0, 0);
        }
        new Run().edge(0, 1, 1, 0).edge(0, 1, 1, 1).level(0, 0).level(3, 2);
    }

    private static void levelOfASetThatIsNotClosed() {
        Run r = diamond(5);
        for (int mask = 1; mask < 32; mask++) {
            boolean closed = mask == 0b10011 || mask == 0b11100 || mask == 0b01111;
            r.level(mask, closed ? mask == 0b10011 ? 8 : 12 : NONE);
        }
        bundle(12).level(0x7FF, NONE).level(0xFFF, 13);
        path(1).level(63, NONE).level(1, NONE).edge(6, 0, 1, 6).level(127, 7).level(63, NONE);
    }

    private static void levelWithoutSuchAnEdge() {
        for (int size = 0; size <= 12; size++) {
            Run r = bundle(size);
            for (int bit = size; bit < 32; bit++) {
                r.level(1 << bit, NONE).level(1 << bit | 1, NONE).level(1 << bit | 3, NONE);
            }
            r.level(-1, NONE).level(MAX, NONE).level(MIN, NONE).level(-1 << size, NONE);
            if (size > 1) {
                r.level(1 << (size - 1) | 1, size + 1);
            }
        }
        bundle(12).level(0xFFF, 13).level(0x1FFF, NONE).level(0xFFF | MIN, NONE);
        bundle(3).level(5, 4).dropLast(2).level(5, NONE).level(3, 3);
    }

    private static void levelIsTheLeast() {
        // Each of the three sets is the sum of the other two, so that no level is above the second
        // of their weights.
        levels(diamond(1), 4, 10, 10);
        levels(diamond(2), 5, 11, 11);
        levels(diamond(3), 6, 12, 12);
        levels(diamond(4), 7, 12, 12);
        levels(diamond(8), 11, 12, 12);
        levels(diamond(9), 12, 12, 12);
        levels(diamond(10), 13, 13, 12);
        levels(diamond(100), 103, 103, 12);
        // A sum of eleven sets.
        bundle(12).level(0xFFF, 13).level(0x7FE, 12).level(0b110, 4);
        fallingBundle().level(0xFFF, 13).level(0x7FE, 12).level(0xC00, 3).level(0x600, 4).level(0b11, 13);
    }

    private static void levels(Run r, int first, int second, int square) {
        r.level(0b10011, first).level(0b11100, second).level(0b01111, square);
    }

    // ---- Promise 11 ----

    private static void bridgesFromNoneToAll() {
        new Run().bridges(0);
        bundle(1).bridges(1).edge(5, 3, 1, 1).bridges(0).dropLast(1).bridges(1).dropLast(0).bridges(0);
        path(1).bridges(6).edge(6, 0, 1, 6).bridges(0);
        path(1).edge(6, 1, 1, 6).bridges(1);
        path(1).edge(6, 5, 1, 6).bridges(5);
        tailed().bridges(1).edge(3, 4, 100, 6).bridges(0);
        bundle(12).bridges(0);
        wheel().bridges(0);
        // Both sides of a bridge have cycles of their own.
        Run r = new Run().edge(0, 1, 1, 0).edge(0, 1, 1, 1).edge(1, 2, 1, 2).edge(2, 3, 1, 3).edge(3, 2, 1, 4);
        r.bridges(1).through(2, NONE).edge(0, 3, 1, 5).bridges(0);
        // Twelve edges, the last one a bridge.
        bundle(11).edge(0, 1, 1, 11).bridges(1);
    }

    // ---- Promise 12 ----

    private static void vertexBeforeWeight() {
        for (int weight : NOT_WEIGHTS) {
            tailed().edge(7, 0, weight, BAD_VERTEX).edge(0, -1, weight, BAD_VERTEX).edge(2, 2, weight, BAD_VERTEX);
        }
    }

    private static void vertexBeforeFull() {
        wheel().edge(7, 0, 1, BAD_VERTEX).edge(-1, 0, 1, BAD_VERTEX).edge(0, 7, 1, BAD_VERTEX)
            .edge(0, -1, 1, BAD_VERTEX).edge(3, 3, 1, BAD_VERTEX).edge(0, 1, 1, FULL);
        // All three at once.
        wheel().edge(7, 0, 0, BAD_VERTEX).edge(0, -1, 101, BAD_VERTEX).edge(6, 6, 0, BAD_VERTEX);
    }

    private static void weightBeforeFull() {
        for (int weight : NOT_WEIGHTS) {
            wheel().edge(0, 1, weight, BAD_WEIGHT);
        }
        wheel().edge(0, 1, 1, FULL).edge(0, 1, 100, FULL);
    }

    private static void noEdgeBeforeWeight() {
        for (int weight : NOT_WEIGHTS) {
            new Run().reweigh(0, weight, NO_EDGE);
            tailed().reweigh(6, weight, NO_EDGE).reweigh(-1, weight, NO_EDGE).reweigh(5, weight, BAD_WEIGHT);
            wheel().reweigh(12, weight, NO_EDGE).reweigh(11, weight, BAD_WEIGHT);
        }
    }

    private static void test(String words, Runnable body) {
        sentence = words;
        body.run();
    }

    public static void main(String[] args) {
        test("0: seven vertices (0 to 6)", BoundaryTest::allSevenVertices);
        test("0: several edges may join the same two vertices", BoundaryTest::severalEdges);
        test("0: used for at most 512 calls", BoundaryTest::upToTheLastCall);
        test("0: the empty set is a closed set", BoundaryTest::emptySetIsClosed);
        test("0: the calls below change nothing", BoundaryTest::questionsChangeNothing);
        test("1: no edges", BoundaryTest::noEdges);
        test("1: no edges, whatever other objects have", BoundaryTest::noEdgesOfAnotherObject);
        test("2: u not in 0 to 6: BAD_VERTEX", BoundaryTest::firstVertexOutside);
        test("2: v not in 0 to 6: BAD_VERTEX", BoundaryTest::secondVertexOutside);
        test("2: u == v: BAD_VERTEX", BoundaryTest::sameVertex);
        test("2: BAD_VERTEX: nothing changes then", BoundaryTest::badVertexChangesNothing);
        test("2: weight not in 1 to 100: BAD_WEIGHT", BoundaryTest::edgeWeightOutside);
        test("2: BAD_WEIGHT: nothing changes then", BoundaryTest::badEdgeWeightChangesNothing);
        test("2: there are twelve edges: FULL", BoundaryTest::fullWithTwelve);
        test("2: FULL: nothing changes then", BoundaryTest::fullChangesNothing);
        test("2: else answers its number", BoundaryTest::answersItsNumber);
        test("3: no such edge: NO_EDGE", BoundaryTest::reweighNoSuchEdge);
        test("3: NO_EDGE: nothing changes then", BoundaryTest::reweighNoSuchEdgeChangesNothing);
        test("3: weight not in 1 to 100: BAD_WEIGHT", BoundaryTest::reweighWeightOutside);
        test("3: BAD_WEIGHT: nothing changes then", BoundaryTest::badReweighChangesNothing);
        test("3: else answers the old weight", BoundaryTest::answersTheOldWeight);
        test("4: there is none: NO_EDGE", BoundaryTest::dropFromNothing);
        test("4: else answers how many are left", BoundaryTest::answersHowManyAreLeft);
        test("4: the one with the greatest number", BoundaryTest::dropsTheGreatestNumber);
        test("5: the rank", BoundaryTest::rankFromNothingToEleven);
        test("6: 0 if the rank is 0", BoundaryTest::totalOfRankNothing);
        test("6: the weight of a least basis", BoundaryTest::totalOfManySets);
        test("7: NONE if i is not in 0 to rank - 1", BoundaryTest::partOutside);
        test("7: from 0 and in ascending order", BoundaryTest::partsAscend);
        test("8: NO_EDGE", BoundaryTest::throughNoSuchEdge);
        test("8: NONE if no closed set has it", BoundaryTest::throughNoClosedSet);
        test("8: the least weight of a closed set that is not empty", BoundaryTest::throughIsTheLeast);
        test("9: false if the mask has a bit for which there is no edge", BoundaryTest::closedWithoutSuchAnEdge);
        test("9: whether the edges are a closed set", BoundaryTest::closedIsEvenEverywhere);
        test("10: 0 for the empty set", BoundaryTest::levelOfTheEmptySet);
        test("10: NONE if it isn't closed", BoundaryTest::levelOfASetThatIsNotClosed);
        test("10: NONE if it isn't closed, for want of an edge", BoundaryTest::levelWithoutSuchAnEdge);
        test("10: the least w, of weight at most w each", BoundaryTest::levelIsTheLeast);
        test("11: how many edges lie in no closed set", BoundaryTest::bridgesFromNoneToAll);
        test("12: BAD_VERTEX before BAD_WEIGHT", BoundaryTest::vertexBeforeWeight);
        test("12: BAD_VERTEX before FULL", BoundaryTest::vertexBeforeFull);
        test("12: BAD_WEIGHT before FULL", BoundaryTest::weightBeforeFull);
        test("12: reweigh: NO_EDGE before BAD_WEIGHT", BoundaryTest::noEdgeBeforeWeight);
        if (wrong != 0) {
            System.out.println(wrong + " answers are not as due");
            System.exit(1);
        }
    }
}
