/** Graphs and ranks with which the tests begin, and numbers that are wrong. */
final class Given {
    /** Wrong as a node, arc, way, place or what in each graph; some have the low bits of good ones. */
    private static final int[] NEVER = {-1, -2, -16, -32, -60, -64, 64, 65, 128, 256, 1000000, 65536, 1 << 30,
        Integer.MIN_VALUE, Integer.MIN_VALUE + 1, Integer.MAX_VALUE, Integer.MAX_VALUE - 1};

    private Given() {
    }

    static PairMatching graph(int nodes) {
        PairMatching x = new PairMatching();
        addNodes(x, nodes);
        return x;
    }

    /** Arcs are told as "a-b:weight", one behind another. */
    static PairMatching graph(int nodes, String arcs) {
        PairMatching x = graph(nodes);
        addArcs(x, arcs);
        return x;
    }

    static void addArcs(PairMatching x, String arcs) {
        for (String arc : arcs.split(" ")) {
            String[] parts = arc.split("[-:]");
            x.arc(Integer.parseInt(parts[0]), Integer.parseInt(parts[1]), Integer.parseInt(parts[2]));
        }
    }

    static void addNodes(PairMatching x, int nodes) {
        for (int node = 0; node < nodes; node++) {
            x.node();
        }
    }

    /** Arcs that are made and cut again at once: only their numbers are used up. */
    static void useUpArcs(PairMatching x, int arcs) {
        for (int i = 0; i < arcs; i++) {
            x.cut(x.arc(0, 1, 0));
        }
    }

    /** 0 - 1 - 2 - 3 with a dear arc in the middle. */
    static PairMatching path() {
        return graph(4, "0-1:3 1-2:9 2-3:4");
    }

    static PairMatching square() {
        return graph(4, "0-1:3 1-2:5 2-3:4 3-0:1");
    }

    static PairMatching triangle() {
        return graph(3, "0-1:1 1-2:1 2-0:1");
    }

    /** 16 nodes and 60 arcs: nodes 2k and 2k + 1 have arcs k, k + 8, k + 16, .. between them. */
    static PairMatching full() {
        PairMatching x = graph(16);
        for (int arc = 0; arc < 60; arc++) {
            x.arc(arc % 8 * 2, arc % 8 * 2 + 1, 1000);
        }
        return x;
    }

    static void rankBoth(PairMatching x, int a, int b, int byA, int byB) {
        x.rank(a, b, byA);
        x.rank(b, a, byB);
    }

    /** A triangle where each node would sooner have the next one: no pairs are stable. */
    static PairMatching unstable() {
        PairMatching x = triangle();
        rankBoth(x, 0, 1, 1, 2);
        rankBoth(x, 1, 2, 1, 2);
        rankBoth(x, 2, 0, 1, 2);
        return x;
    }

    /** A square with two stable sets: 0 and 2 are best off in arcs 0 and 2, 1 and 3 in arcs 1 and 3. */
    static PairMatching twiceStable() {
        PairMatching x = square();
        rankBoth(x, 0, 1, 0, 9);
        rankBoth(x, 2, 3, 0, 9);
        rankBoth(x, 1, 2, 0, 9);
        rankBoth(x, 3, 0, 0, 9);
        return x;
    }

    /** Numbers that are none of 0 .. amount - 1, the next ones to them first. */
    static int[] outside(int amount) {
        int[] wrong = new int[NEVER.length + 4];
        wrong[0] = amount;
        wrong[1] = amount + 1;
        wrong[2] = amount + 16;
        wrong[3] = amount + 32;
        System.arraycopy(NEVER, 0, wrong, 4, NEVER.length);
        return wrong;
    }
}
