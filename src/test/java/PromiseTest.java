// For each promise of the document: ordinary inputs, the edges that it names, and wrong inputs,
// with answers worked out by hand.
public final class PromiseTest {
    private static int wrong = 0;

    private static final int[] WILD = {
        Integer.MIN_VALUE, Integer.MIN_VALUE + 1, -33, -32, -12, -1, 7, 12, 13, 31, 32, 33, 64,
        101, 4096, Integer.MAX_VALUE - 1, Integer.MAX_VALUE
    };

    private static void due(String what, long got, long want) {
        if (got != want) {
            wrong++;
            System.out.println(what + " answered " + got + ", due is " + want);
        }
    }

    private static void due(String what, boolean got, boolean want) {
        due(what, got ? 1L : 0L, want ? 1L : 0L);
    }

    // Each row: u, v, weight.
    private static CycleBasis graph(int[]... edges) {
        CycleBasis x = new CycleBasis();
        for (int i = 0; i < edges.length; i++) {
            due("graph: edge " + i, x.edge(edges[i][0], edges[i][1], edges[i][2]), i);
        }
        return x;
    }

    private static int[] e(int u, int v, int weight) {
        return new int[] {u, v, weight};
    }

    // Two triangles on the common edge 0-2 (number 4): {0,1,4} weighs 8, {2,3,4} weighs 14 and
    // the square {0,1,2,3} weighs 12, so that the least basis has the square.
    private static CycleBasis diamond() {
        return graph(e(0, 1, 1), e(1, 2, 2), e(2, 3, 4), e(3, 0, 5), e(0, 2, 5));
    }

    // Twelve edges between two vertices, edge e with weight e + 1.
    private static CycleBasis bundle() {
        CycleBasis x = new CycleBasis();
        for (int i = 0; i < 12; i++) {
            due("bundle: edge " + i, x.edge(i % 2 == 0 ? 3 : 5, i % 2 == 0 ? 5 : 3, i + 1), i);
        }
        return x;
    }

    private static void newObject() {
        CycleBasis x = new CycleBasis();
        due("1: rank", x.rank(), 0);
        due("1: total", x.total(), 0);
        due("1: part(0)", x.part(0), CycleBasis.NONE);
        due("1: through(0)", x.through(0), CycleBasis.NO_EDGE);
        due("1: closed(0)", x.closed(0), true);
        due("1: closed(1)", x.closed(1), false);
        due("1: level(0)", x.level(0), 0);
        due("1: level(1)", x.level(1), CycleBasis.NONE);
        due("1: bridges", x.bridges(), 0);
        due("1: reweigh(0, 1)", x.reweigh(0, 1), CycleBasis.NO_EDGE);
        due("1: dropLast", x.dropLast(), CycleBasis.NO_EDGE);
        due("1: the first edge", x.edge(0, 1, 1), 0);
        due("1: another object has its own edges", new CycleBasis().bridges(), 0);
    }

    private static void edge() {
        CycleBasis x = new CycleBasis();
        for (int w : WILD) {
            due("2: edge(" + w + ", 0, 1)", x.edge(w, 0, 1), CycleBasis.BAD_VERTEX);
            due("2: edge(0, " + w + ", 1)", x.edge(0, w, 1), CycleBasis.BAD_VERTEX);
        }
        for (int v = 0; v < 7; v++) {
            due("2: edge(" + v + ", itself, 1)", x.edge(v, v, 1), CycleBasis.BAD_VERTEX);
        }
        int[] badWeights = {Integer.MIN_VALUE, -100, -1, 0, 101, 102, Integer.MAX_VALUE};
        for (int w : badWeights) {
            due("2: edge(0, 1, " + w + ")", x.edge(0, 1, w), CycleBasis.BAD_WEIGHT);
        }
        due("2: nothing was added", x.bridges(), 0);
        due("2: edge(0, 6, 1)", x.edge(0, 6, 1), 0);
        due("2: edge(6, 0, 100)", x.edge(6, 0, 100), 1);
        due("2: total", x.total(), 101);
        CycleBasis full = bundle();
        due("2: edge on a full graph", full.edge(0, 1, 1), CycleBasis.FULL);
        due("2: rank as it was", full.rank(), 11);
        due("2: bridges as they were", full.bridges(), 0);
        due("2: a place made free", full.dropLast(), 11);
        due("2: is used again", full.edge(0, 1, 1), 11);
        due("2: as a new edge", full.bridges(), 1);
        for (int u = 0; u < 7; u++) {
            for (int v = 0; v < 7; v++) {
                CycleBasis y = new CycleBasis();
                due("2: edge(" + u + ", " + v + ", 7)", y.edge(u, v, 7), u == v ? CycleBasis.BAD_VERTEX : 0);
            }
        }
    }

    private static void reweigh() {
        CycleBasis x = diamond();
        due("3: reweigh(0, 100)", x.reweigh(0, 100), 1);
        due("3: reweigh(0, 1)", x.reweigh(0, 1), 100);
        due("3: the same weight", x.reweigh(4, 5), 5);
        for (int w : WILD) {
            due("3: reweigh(" + w + ", 1)", x.reweigh(w, 1), CycleBasis.NO_EDGE);
        }
        due("3: reweigh(5, 1)", x.reweigh(5, 1), CycleBasis.NO_EDGE);
        int[] badWeights = {Integer.MIN_VALUE, -1, 0, 101, Integer.MAX_VALUE};
        for (int w : badWeights) {
            due("3: reweigh(2, " + w + ")", x.reweigh(2, w), CycleBasis.BAD_WEIGHT);
        }
        due("3: nothing changed", x.total(), 20);
        due("3: reweigh(2, 3)", x.reweigh(2, 3), 4);
        due("3: total with the new weight", x.total(), 19);
        due("3: reweigh(4, 1)", x.reweigh(4, 1), 5);
        due("3: two triangles now", x.total(), 13);
        due("3: dropLast", x.dropLast(), 4);
        due("3: the dropped edge", x.reweigh(4, 1), CycleBasis.NO_EDGE);
    }

    private static void dropLast() {
        CycleBasis x = diamond();
        for (int left = 4; left >= 0; left--) {
            due("4: dropLast", x.dropLast(), left);
            due("4: rank", x.rank(), left == 4 ? 1 : 0);
            due("4: bridges", x.bridges(), left == 4 ? 0 : left);
        }
        due("4: dropLast of nothing", x.dropLast(), CycleBasis.NO_EDGE);
        due("4: dropLast of nothing again", x.dropLast(), CycleBasis.NO_EDGE);
        due("4: edge after it", x.edge(2, 4, 9), 0);
        due("4: edge after it", x.edge(4, 2, 8), 1);
        due("4: total", x.total(), 17);
        CycleBasis y = diamond();
        due("4: dropLast", y.dropLast(), 4);
        due("4: the last one is gone, not another", y.total(), 12);
        due("4: other ends and weight", y.edge(1, 3, 2), 4);
        due("4: {1,2,4} and {0,3,4}", y.total(), 16);
    }

    private static void rank() {
        due("5: diamond", diamond().rank(), 2);
        due("5: bundle", bundle().rank(), 11);
        due("5: a tree", graph(e(0, 1, 1), e(1, 2, 1), e(1, 3, 1)).rank(), 0);
        due("5: two triangles apart", twoTriangles().rank(), 2);
        due("5: a pair", graph(e(0, 1, 4), e(1, 0, 4)).rank(), 1);
        due("5: a wheel", wheel().rank(), 6);
    }

    private static CycleBasis twoTriangles() {
        return graph(e(0, 1, 10), e(1, 2, 10), e(2, 0, 10), e(3, 4, 1), e(4, 5, 2), e(5, 3, 3));
    }

    // Hub 6 with spokes 0 to 5 of weight 10, and a rim 6 to 11 of weight 1: the rim weighs 6,
    // each of the triangles 21; the rim and five triangles are a least basis.
    private static CycleBasis wheel() {
        CycleBasis x = new CycleBasis();
        for (int v = 0; v < 6; v++) {
            due("wheel: spoke", x.edge(6, v, 10), v);
        }
        for (int v = 0; v < 6; v++) {
            due("wheel: rim", x.edge(v, (v + 1) % 6, 1), 6 + v);
        }
        return x;
    }

    private static void total() {
        due("6: rank 0", graph(e(0, 1, 50)).total(), 0);
        due("6: diamond", diamond().total(), 20);
        // Edge 0 with each other one: 11 times 1, and 2 + 3 + .. + 12 = 77.
        due("6: bundle", bundle().total(), 88);
        due("6: two triangles apart", twoTriangles().total(), 36);
        due("6: wheel", wheel().total(), 6 + 5 * 21);
        CycleBasis heavy = new CycleBasis();
        for (int i = 0; i < 12; i++) {
            due("6: heavy edge", heavy.edge(0, 1, 100), i);
        }
        due("6: heavy", heavy.total(), 2200);
    }

    private static void part() {
        CycleBasis x = diamond();
        due("7: part(0)", x.part(0), 8);
        due("7: part(1)", x.part(1), 12);
        due("7: part(2)", x.part(2), CycleBasis.NONE);
        for (int w : WILD) {
            due("7: part(" + w + ")", x.part(w), CycleBasis.NONE);
        }
        CycleBasis b = bundle();
        for (int i = 0; i < 11; i++) {
            due("7: bundle part " + i, b.part(i), i + 3);
        }
        due("7: bundle part 11", b.part(11), CycleBasis.NONE);
        due("7: bundle part 12", b.part(12), CycleBasis.NONE);
        due("7: bundle part -1", b.part(-1), CycleBasis.NONE);
        CycleBasis t = twoTriangles();
        due("7: the later triangle is lighter", t.part(0), 6);
        due("7: the earlier triangle", t.part(1), 30);
        CycleBasis w = wheel();
        due("7: rim", w.part(0), 6);
        for (int i = 1; i < 6; i++) {
            due("7: wheel part " + i, w.part(i), 21);
        }
        due("7: wheel part 6", w.part(6), CycleBasis.NONE);
    }

    private static void through() {
        CycleBasis x = diamond();
        int[] want = {8, 8, 12, 12, 8};
        for (int i = 0; i < want.length; i++) {
            due("8: diamond through " + i, x.through(i), want[i]);
        }
        due("8: through(5)", x.through(5), CycleBasis.NO_EDGE);
        for (int w : WILD) {
            due("8: through(" + w + ")", x.through(w), CycleBasis.NO_EDGE);
        }
        due("8: a bridge", x.edge(3, 4, 1), 5);
        due("8: through a bridge", x.through(5), CycleBasis.NONE);
        due("8: a second edge beside it", x.edge(3, 4, 100), 6);
        due("8: through the pair", x.through(5), 101);
        due("8: dropLast", x.dropLast(), 6);
        due("8: a bridge again", x.through(5), CycleBasis.NONE);
        due("8: the dropped edge", x.through(6), CycleBasis.NO_EDGE);
        CycleBasis b = bundle();
        due("8: bundle through 0", b.through(0), 3);
        due("8: bundle through 11", b.through(11), 13);
        due("8: bundle through 12", b.through(12), CycleBasis.NO_EDGE);
    }

    private static void closed() {
        CycleBasis x = diamond();
        for (int mask = 0; mask < 64; mask++) {
            boolean want = mask == 0 || mask == 0b10011 || mask == 0b11100 || mask == 0b01111;
            due("9: closed(" + mask + ")", x.closed(mask), want);
        }
        for (int bit = 5; bit < 32; bit++) {
            due("9: closed with bit " + bit, x.closed(0b10011 | (1 << bit)), false);
            due("9: closed with bit " + bit + " alone", x.closed(1 << bit), false);
        }
        due("9: closed(-1)", x.closed(-1), false);
        due("9: two triangles that meet nowhere", twoTriangles().closed(63), true);
        CycleBasis b = bundle();
        due("9: all of the bundle", b.closed(0xFFF), true);
        due("9: an odd number", b.closed(0x7FF), false);
        due("9: bit 12", b.closed(0x1FFF), false);
        due("9: bit 31", b.closed(0xFFF | Integer.MIN_VALUE), false);
        due("9: dropLast", b.dropLast(), 11);
        due("9: with the dropped edge", b.closed(0x801), false);
        due("9: without it", b.closed(0x401), true);
        CycleBasis none = new CycleBasis();
        for (int bit = 0; bit < 32; bit++) {
            due("9: no edges, bit " + bit, none.closed(1 << bit), false);
        }
    }

    private static void level() {
        CycleBasis x = diamond();
        due("10: empty", x.level(0), 0);
        due("10: triangle 8", x.level(0b10011), 8);
        due("10: square 12", x.level(0b01111), 12);
        due("10: triangle 14 is the sum of the others", x.level(0b11100), 12);
        due("10: not closed", x.level(1), CycleBasis.NONE);
        due("10: not closed", x.level(0b11111), CycleBasis.NONE);
        for (int bit = 5; bit < 32; bit++) {
            due("10: level with bit " + bit, x.level(0b10011 | (1 << bit)), CycleBasis.NONE);
        }
        due("10: level(-1)", x.level(-1), CycleBasis.NONE);
        CycleBasis t = twoTriangles();
        due("10: light triangle", t.level(0b111000), 6);
        due("10: heavy triangle", t.level(0b000111), 30);
        due("10: both", t.level(0b111111), 30);
        CycleBasis b = bundle();
        due("10: all of the bundle", b.level(0xFFF), 13);
        due("10: edges 1 and 2", b.level(0b110), 4);
        due("10: edges 10 and 11", b.level(0xC00), 13);
        due("10: dropLast", b.dropLast(), 11);
        due("10: the dropped edge", b.level(0xC00), CycleBasis.NONE);
        CycleBasis w = wheel();
        due("10: rim", w.level(0xFC0), 6);
        due("10: a triangle", w.level(0b000001000011), 21);
        due("10: two triangles", w.level(0b000011000101), 21);
    }

    private static void bridges() {
        due("11: diamond", diamond().bridges(), 0);
        due("11: a tree", graph(e(0, 1, 1), e(1, 2, 1), e(1, 3, 1)).bridges(), 3);
        CycleBasis x = diamond();
        due("11: a tail", x.edge(3, 4, 1), 5);
        due("11: a tail", x.edge(4, 5, 1), 6);
        due("11: two of the tail", x.bridges(), 2);
        due("11: its middle doubled", x.edge(3, 4, 1), 7);
        due("11: one of the tail", x.bridges(), 1);
        due("11: back to the diamond", x.edge(5, 0, 1), 8);
        due("11: none", x.bridges(), 0);
        CycleBasis joined = twoTriangles();
        due("11: between two triangles", joined.edge(2, 3, 1), 6);
        due("11: one", joined.bridges(), 1);
        due("11: bundle", bundle().bridges(), 0);
    }

    private static void orderAndLimits() {
        CycleBasis full = bundle();
        due("12: all three", full.edge(7, 0, 0), CycleBasis.BAD_VERTEX);
        due("12: same vertex, bad weight, full", full.edge(2, 2, 101), CycleBasis.BAD_VERTEX);
        due("12: vertex and full", full.edge(0, -1, 1), CycleBasis.BAD_VERTEX);
        due("12: weight and full", full.edge(0, 1, 0), CycleBasis.BAD_WEIGHT);
        due("12: full", full.edge(0, 1, 1), CycleBasis.FULL);
        CycleBasis x = diamond();
        due("12: vertex and weight", x.edge(-1, 0, 101), CycleBasis.BAD_VERTEX);
        due("12: no edge and weight", x.reweigh(5, 0), CycleBasis.NO_EDGE);
        due("12: no edge and weight", x.reweigh(-1, 101), CycleBasis.NO_EDGE);
        due("12: weight", x.reweigh(4, 0), CycleBasis.BAD_WEIGHT);
        due("12: as it was", x.total(), 20);
    }

    // The calls that change nothing, between calls of every kind, and up to 512 calls.
    private static void questionsChangeNothing() {
        CycleBasis x = diamond();
        for (int i = 0; i < 50; i++) {
            due("rank again", x.rank(), 2);
            due("level again", x.level(0b11100), 12);
            due("part again", x.part(0), 8);
            due("total again", x.total(), 20);
            due("part again", x.part(1), 12);
            due("level again", x.level(0b10011), 8);
            due("through again", x.through(2), 12);
            due("closed again", x.closed(0b01111), true);
            due("bridges again", x.bridges(), 0);
            due("part again", x.part(2), CycleBasis.NONE);
        }
        due("the next number", x.edge(5, 6, 3), 5);
        due("the last weight", x.reweigh(5, 4), 3);
    }

    public static void main(String[] args) {
        newObject();
        edge();
        reweigh();
        dropLast();
        rank();
        total();
        part();
        through();
        closed();
        level();
        bridges();
        orderAndLimits();
        questionsChangeNothing();
        if (wrong != 0) {
            System.out.println(wrong + " answers are not as due");
            System.exit(1);
        }
    }
}
