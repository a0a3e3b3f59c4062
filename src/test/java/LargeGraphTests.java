import java.util.Arrays;
import java.util.Random;

/**
 * Graphs up to 16 nodes and 60 arcs. What is due is worked out in another way than in the class: arc
 * by arc, for all sets of nodes at once.
 */
public final class LargeGraphTests {
    private static final int GRAPHS = 160;
    private static final long NONE = Long.MAX_VALUE / 4;
    private static final int MOST_SETS = 1 << 16;

    private final Checks checks = new Checks();
    private final Random random = new Random(512);
    private final long[] price = new long[MOST_SETS];
    private final long[] marks = new long[MOST_SETS];
    private final long[] number = new long[MOST_SETS];
    private PairMatching x;
    private String name;
    private int calls;
    private int nodes;
    private int arcs;
    private final int[] one = new int[60];
    private final int[] other = new int[60];
    private final int[] weight = new int[60];
    private final boolean[] alive = new boolean[60];
    private final int[][] ranks = new int[16][16];
    private int stables;
    private long firstStable;

    public static void main(String[] args) {
        LargeGraphTests tests = new LargeGraphTests();
        for (int graph = 0; graph < GRAPHS; graph++) {
            tests.oneGraph(graph);
        }
        for (int graph = 0; graph < GRAPHS; graph++) {
            tests.oneRanking(graph);
        }
        tests.checks.end();
    }

    private void oneGraph(int graph) {
        name = "graph " + graph;
        int[] heaviest = {0, 1, 3, 1000};
        int size = graph % 3 == 0 ? 16 : 9 + random.nextInt(8);
        makeGraph(size, graph % 5 == 0 ? 10 + random.nextInt(30) : 60, heaviest[graph % 4], graph % 7);
        for (int round = 0; round < 2; round++) {
            checkWays();
            checkCover();
            checkHold();
            checkJoins();
            checkShape();
            for (int cuts = 0; cuts < 3; cuts++) {
                cutOne();
            }
        }
        checkCalls();
    }

    /** Kinds of graphs: any, few neighbours, all at the least nodes, in two sides, rings of odd length. */
    private void makeGraph(int size, int wantedArcs, int heaviest, int kind) {
        x = new PairMatching();
        calls = 0;
        nodes = size;
        arcs = 0;
        for (int node = 0; node < size; node++) {
            due("node()", x.node(), node);
        }
        for (int arc = 0; arc < wantedArcs; arc++) {
            int a = random.nextInt(size);
            int b = random.nextInt(size);
            switch (kind) {
                case 1:
                    b = (a + 1 + random.nextInt(2)) % size;
                    break;
                case 2:
                    a = random.nextInt(5);
                    break;
                case 3:
                    b = (a & 1) == (b & 1) ? b ^ 1 : b;
                    break;
                case 4:
                    b = a % 5 == 0 ? b : a / 3 * 3 + (a + 1) % 3;
                    break;
                default:
                    break;
            }
            if (a != b && b < size) {
                addArc(a, b, random.nextInt(heaviest + 1));
            }
        }
    }

    private void addArc(int a, int b, int heavy) {
        due("arc", x.arc(a, b, heavy), arcs);
        one[arcs] = a;
        other[arcs] = b;
        weight[arcs] = heavy;
        alive[arcs] = true;
        arcs++;
    }

    private void cutOne() {
        int arc = random.nextInt(60);
        boolean there = arc < arcs && alive[arc];
        if (there) {
            alive[arc] = false;
            int left = 0;
            for (int i = 0; i < arcs; i++) {
                left += alive[i] ? 1 : 0;
            }
            due("cut", x.cut(arc), left);
        } else {
            due("cut", x.cut(arc), -1);
        }
    }

    private int ends(int arc) {
        return 1 << one[arc] | 1 << other[arc];
    }

    private static long mark(int arc) {
        return 1L << 59 - arc;
    }

    private void startSets() {
        Arrays.fill(price, NONE);
        Arrays.fill(marks, 0);
        price[0] = 0;
    }

    private void improve(int set, long newPrice, long newMarks) {
        if (newPrice < price[set] || newPrice == price[set] && newMarks > marks[set]) {
            price[set] = newPrice;
            marks[set] = newMarks;
        }
    }

    private long priceIn(int way, int arc) {
        switch (way) {
            case 0:
                return -1;
            case 1:
                return 1 - 100L * weight[arc];
            case 2:
                return weight[arc];
            default:
                return -weight[arc];
        }
    }

    private void checkWays() {
        for (int way = 0; way < 4; way++) {
            startSets();
            for (int arc = 0; arc < arcs; arc++) {
                for (int set = 0; alive[arc] && set < 1 << nodes; set++) {
                    if ((set & ends(arc)) == 0 && price[set] != NONE) {
                        improve(set | ends(arc), price[set] + priceIn(way, arc), marks[set] | mark(arc));
                    }
                }
            }
            int best = (1 << nodes) - 1;
            for (int set = 0; way < 2 && set < 1 << nodes; set++) {
                if (price[set] < price[best] || price[set] == price[best] && marks[set] > marks[best]) {
                    best = set;
                }
            }
            checkWay(way, price[best] != NONE, marks[best]);
            if (way == 0) {
                checkSorts(Long.bitCount(marks[best]));
            }
        }
        checkCounts();
    }

    private void checkWay(int way, boolean exists, long set) {
        int sum = 0;
        for (int arc = 0; arc < arcs; arc++) {
            sum += (set & mark(arc)) != 0 ? weight[arc] : 0;
        }
        due("pairs(" + way + ")", x.pairs(way), exists ? Long.bitCount(set) : -3);
        due("weight(" + way + ")", x.weight(way), exists ? sum : -3);
        for (int node = 0; node < nodes; node++) {
            due("mate(" + way + ", " + node + ")", x.mate(way, node), exists ? arcAt(set, node) : -3);
        }
    }

    private int arcAt(long set, int node) {
        for (int arc = 0; arc < arcs; arc++) {
            if ((set & mark(arc)) != 0 && (ends(arc) >> node & 1) != 0) {
                return arc;
            }
        }
        return -3;
    }

    private void checkSorts(int most) {
        int lefts = 0;
        for (int set = 0; set < 1 << nodes; set++) {
            if (price[set] != NONE && Integer.bitCount(set) == 2 * most) {
                lefts |= ~set & (1 << nodes) - 1;
            }
        }
        int besides = 0;
        for (int arc = 0; arc < arcs; arc++) {
            if (alive[arc] && (ends(arc) & lefts) != 0) {
                besides |= ends(arc) & ~lefts;
            }
        }
        for (int node = 0; node < nodes; node++) {
            int sort = (lefts >> node & 1) != 0 ? 0 : (besides >> node & 1) != 0 ? 1 : 2;
            due("sort(" + node + ")", x.sort(node), sort);
        }
        due("shape(0)", x.shape(0), Integer.bitCount(besides));
        due("shape(2)", x.shape(2), nodes - 2 * most);
        checkPieces(besides);
    }

    private void checkPieces(int takenOut) {
        int pieces = 0;
        int odd = 0;
        int seen = takenOut;
        for (int node = 0; node < nodes; node++) {
            if ((takenOut >> node & 1) != 0) {
                due("piece(" + node + ")", x.piece(node), -3);
            } else if ((seen >> node & 1) == 0) {
                int members = membersWith(node, takenOut);
                for (int member = 0; member < nodes; member++) {
                    if ((members >> member & 1) != 0) {
                        due("piece(" + member + ")", x.piece(member), pieces);
                    }
                }
                seen |= members;
                pieces++;
                odd += Integer.bitCount(members) % 2;
            }
        }
        due("shape(1)", x.shape(1), odd);
        // The formula of Tutte and Berge: so many nodes more than the odd pieces can take.
        due("odd pieces without sort 1", odd - Integer.bitCount(takenOut), x.shape(2));
    }

    private int membersWith(int node, int takenOut) {
        int members = 1 << node;
        for (int round = 0; round < nodes; round++) {
            for (int arc = 0; arc < arcs; arc++) {
                if (alive[arc] && (ends(arc) & takenOut) == 0 && (ends(arc) & members) != 0) {
                    members |= ends(arc);
                }
            }
        }
        return members;
    }

    private void checkCounts() {
        Arrays.fill(number, 0);
        number[0] = 1;
        for (int arc = 0; arc < arcs; arc++) {
            for (int set = 0; alive[arc] && set < 1 << nodes; set++) {
                if ((set & ends(arc)) == 0) {
                    number[set | ends(arc)] += number[set];
                }
            }
        }
        long[] sizes = new long[10];
        for (int set = 0; set < 1 << nodes; set++) {
            sizes[Integer.bitCount(set) / 2] += number[set];
        }
        for (int size = 0; size < 10; size++) {
            due("count(" + size + ")", x.count(size), sizes[size]);
        }
    }

    private void checkCover() {
        startSets();
        for (int arc = 0; arc < arcs; arc++) {
            for (int set = 0; alive[arc] && set < 1 << nodes; set++) {
                if ((set & ends(arc)) != ends(arc) && price[set] != NONE) {
                    improve(set | ends(arc), price[set] + 1, marks[set] | mark(arc));
                }
            }
        }
        int all = (1 << nodes) - 1;
        boolean exists = price[all] != NONE;
        due("cover()", x.cover(), exists ? price[all] : -3);
        checkPlaces(true, exists, marks[all]);
    }

    private void checkPlaces(boolean ofCover, boolean exists, long set) {
        int place = 0;
        for (int arc = 0; arc < arcs && exists; arc++) {
            if ((set & mark(arc)) != 0) {
                due("arc in place " + place, ofCover ? x.coverArc(place) : x.joinArc(place), arc);
                place++;
            }
        }
        due("arc in no place", ofCover ? x.coverArc(place) : x.joinArc(place), exists ? -1 : -3);
    }

    private void checkHold() {
        int best = (1 << nodes) - 1;
        for (int set = 0; set < 1 << nodes; set++) {
            boolean holds = true;
            for (int arc = 0; arc < arcs && holds; arc++) {
                holds = !alive[arc] || (ends(arc) & set) != 0;
            }
            int size = Integer.bitCount(set) - Integer.bitCount(best);
            int differs = set ^ best;
            boolean ahead = size == 0 && (set & differs & -differs) != 0;
            if (holds && (size < 0 || ahead)) {
                best = set;
            }
        }
        due("hold()", x.hold(), Integer.bitCount(best));
        int place = 0;
        for (int node = 0; node < nodes; node++) {
            if ((best >> node & 1) != 0) {
                due("holdNode(" + place + ")", x.holdNode(place), node);
                place++;
            }
        }
        due("holdNode(" + place + ")", x.holdNode(place), -1);
    }

    private void checkJoins() {
        startSets();
        for (int arc = 0; arc < arcs; arc++) {
            for (int set = 0; alive[arc] && set < 1 << nodes; set++) {
                int turned = set ^ ends(arc);
                if (set < turned) {
                    long priceHere = price[set];
                    long marksHere = marks[set];
                    long more = weight[arc] * 100L + 1;
                    if (price[turned] != NONE) {
                        improve(set, price[turned] + more, marks[turned] | mark(arc));
                    }
                    if (priceHere != NONE) {
                        improve(turned, priceHere + more, marksHere | mark(arc));
                    }
                }
            }
        }
        checkJoin(0);
        for (int times = 0; times < 5; times++) {
            checkJoin(random.nextInt(1 << nodes));
        }
        checkJoin((1 << nodes) - 1);
    }

    private void checkJoin(int set) {
        boolean exists = price[set] != NONE;
        due("join(" + set + ")", x.join(set), exists ? price[set] / 100 : -3);
        if (exists) {
            checkPlaces(false, true, marks[set]);
        }
    }

    private void checkShape() {
        int parts = 0;
        int seen = 0;
        for (int node = 0; node < nodes; node++) {
            if ((seen >> node & 1) == 0) {
                seen |= membersWith(node, 0);
                parts++;
            }
        }
        due("shape(4)", x.shape(4), parts);
        due("shape(3)", x.shape(3), canBeParted() ? 1 : 0);
    }

    private boolean canBeParted() {
        for (int side = 0; side < 1 << nodes; side++) {
            boolean parts = true;
            for (int arc = 0; arc < arcs && parts; arc++) {
                parts = !alive[arc] || Integer.bitCount(ends(arc) & side) == 1;
            }
            if (parts) {
                return true;
            }
        }
        return false;
    }

    private void oneRanking(int graph) {
        name = "ranking " + graph;
        makeGraph(6 + graph % 7, 60, 3, graph % 4 == 3 ? 3 : 0);
        int[] ranksUsed = {1, 2, 5, 100};
        for (int node = 0; node < nodes; node++) {
            for (int to = 0; to < nodes; to++) {
                ranks[node][to] = -1;
                if (node != to && random.nextInt(12) != 0) {
                    ranks[node][to] = random.nextInt(ranksUsed[graph / 2 % 4]);
                    due("rank", x.rank(node, to, ranks[node][to]), -1);
                }
            }
        }
        for (int round = 0; round < 2; round++) {
            checkStable();
            cutOne();
        }
        checkCalls();
    }

    private void checkStable() {
        stables = 0;
        firstStable = 0;
        int[] partner = new int[nodes];
        Arrays.fill(partner, -1);
        goThroughPairs(0, partner, 0);
        due("stable()", x.stable(), stables);
        for (int node = 0; node < nodes; node++) {
            due("stableMate(" + node + ")", x.stableMate(node), stables == 0 ? -3 : arcAt(firstStable, node));
        }
    }

    private void goThroughPairs(int node, int[] partner, long set) {
        if (node == nodes) {
            if (isStable(partner)) {
                stables++;
                firstStable = Math.max(firstStable, set);
            }
            return;
        }
        goThroughPairs(node + 1, partner, set);
        if (partner[node] >= 0) {
            return;
        }
        for (int to = node + 1; to < nodes; to++) {
            if (partner[to] < 0 && areOpen(node, to)) {
                partner[node] = to;
                partner[to] = node;
                goThroughPairs(node + 1, partner, set | mark(leastBetween(node, to)));
                partner[node] = -1;
                partner[to] = -1;
            }
        }
    }

    private int leastBetween(int a, int b) {
        for (int arc = 0; arc < arcs; arc++) {
            if (alive[arc] && ends(arc) == (1 << a | 1 << b)) {
                return arc;
            }
        }
        return -1;
    }

    private boolean areOpen(int a, int b) {
        return ranks[a][b] >= 0 && ranks[b][a] >= 0 && leastBetween(a, b) >= 0;
    }

    private boolean isStable(int[] partner) {
        for (int a = 0; a < nodes; a++) {
            for (int b = a + 1; b < nodes; b++) {
                if (wouldGo(a, b, partner[a]) && wouldGo(b, a, partner[b]) && areOpen(a, b)) {
                    return false;
                }
            }
        }
        return true;
    }

    private boolean wouldGo(int node, int to, int from) {
        return from < 0 || ranks[node][to] < ranks[node][from];
    }

    private void checkCalls() {
        checks.isTrue(name + " has no more than 512 calls, but " + calls, calls <= 512);
    }

    private void due(String call, long got, long want) {
        calls++;
        checks.due(name + ": " + call, got, want);
    }
}
