import java.util.Arrays;

/**
 * Pairs in graphs of at most 16 nodes and 60 arcs, with what hangs together with them: sorts of
 * nodes, covers, holds, joins and stable pairs.
 *
 * <p>A set of arcs is a long in which the arc of the least number has the highest bit. So of two
 * sets the FIRST is the greater number, and the marks of sets without a common arc can be added.
 */
public final class PairMatching {
    private static final int NO_SUCH = -1;
    private static final int OUTSIDE = -2;
    private static final int NONE = -3;
    private static final int NO_ROOM = -4;

    private static final int MOST_NODES = 16;
    private static final int MOST_ARCS = 60;
    private static final int MOST_WEIGHT = 1000;
    private static final int MOST_RANK = 99;
    private static final int MOST_STABLE_NODES = 12;
    private static final int MOST_PAIRS = 8;
    private static final int CELLS = MOST_NODES * MOST_NODES;

    private static final int MOST_ARCS_WAY = 0;
    private static final int DEAREST_WAY = 1;
    private static final int CHEAPEST_ALL_WAY = 2;
    private static final int DEAREST_ALL_WAY = 3;
    private static final int WAYS = 4;
    private static final int COVER_WAY = 4;

    private static final int LEAVE_FREELY = 0;
    private static final int LEAVE_NEVER = 1;
    private static final int LEAVE_BY_ARC = 2;

    private static final int IMPOSSIBLE = -1000000000;

    private final Graph graph = new Graph();
    private final Ranks ranks = new Ranks();

    // These are made when they are first asked for: an object that only holds a graph stays small.
    private Ways ways;
    private Sorts sorts;
    private Counts counts;
    private Holds holds;
    private Joins joins;
    private Stables stables;

    public PairMatching() {
    }

    public int node() {
        return graph.nodes == MOST_NODES ? NO_ROOM : graph.addNode();
    }

    public int arc(int a, int b, int weight) {
        if (!graph.isNode(a) || !graph.isNode(b)) {
            return NO_SUCH;
        }
        if (a == b || weight < 0 || weight > MOST_WEIGHT) {
            return OUTSIDE;
        }
        return graph.made == MOST_ARCS ? NO_ROOM : graph.addArc(a, b, weight);
    }

    public int cut(int arc) {
        if (!graph.isArc(arc)) {
            return NO_SUCH;
        }
        graph.removeArc(arc);
        return graph.living;
    }

    public int clear() {
        int before = graph.nodes;
        graph.removeAll();
        ranks.removeAll();
        return before;
    }

    // ---- pairs

    public int pairs(int way) {
        if (!isWay(way)) {
            return NO_SUCH;
        }
        Ways now = currentWays();
        return now.exists(way) ? Long.bitCount(now.chosen(way)) : NONE;
    }

    public int weight(int way) {
        if (!isWay(way)) {
            return NO_SUCH;
        }
        Ways now = currentWays();
        return now.exists(way) ? graph.weightOf(now.chosen(way)) : NONE;
    }

    public int mate(int way, int node) {
        if (!isWay(way) || !graph.isNode(node)) {
            return NO_SUCH;
        }
        Ways now = currentWays();
        return now.exists(way) ? graph.arcAt(now.chosen(way), node) : NONE;
    }

    public int sort(int node) {
        return graph.isNode(node) ? currentSorts().sortOf(node) : NO_SUCH;
    }

    public int piece(int node) {
        if (!graph.isNode(node)) {
            return NO_SUCH;
        }
        Sorts now = currentSorts();
        return now.sortOf(node) == 1 ? NONE : now.pieces.partOf(node);
    }

    public int shape(int what) {
        switch (what) {
            case 0:
                return Integer.bitCount(currentSorts().besides);
            case 1:
                return currentSorts().pieces.odd;
            case 2:
                return currentSorts().uncovered;
            case 3:
                return currentSorts().whole.twoSided ? 1 : 0;
            case 4:
                return currentSorts().whole.amount;
            default:
                return NO_SUCH;
        }
    }

    public long count(int size) {
        if (size < 0) {
            return OUTSIDE;
        }
        return size > MOST_PAIRS ? 0L : currentCounts().ofSize(size);
    }

    // ---- covers, holds, joins

    public int cover() {
        Ways now = currentWays();
        return now.exists(COVER_WAY) ? Long.bitCount(now.chosen(COVER_WAY)) : NONE;
    }

    public int coverArc(int i) {
        Ways now = currentWays();
        return now.exists(COVER_WAY) ? arcInPlace(now.chosen(COVER_WAY), i) : NONE;
    }

    public int hold() {
        return Integer.bitCount(currentHolds().chosen);
    }

    public int holdNode(int i) {
        return nodeInPlace(currentHolds().chosen, i);
    }

    public int join(int mask) {
        if ((mask & ~graph.allNodes()) != 0) {
            return OUTSIDE;
        }
        Joins now = currentJoins();
        return now.tell(mask) ? graph.weightOf(now.told) : NONE;
    }

    public int joinArc(int i) {
        if (joins == null) {
            return NONE;
        }
        joins.refresh();
        return joins.isTold ? arcInPlace(joins.told, i) : NONE;
    }

    // ---- ranks

    public int rank(int node, int other, int rank) {
        if (!graph.isNode(node) || !graph.isNode(other)) {
            return NO_SUCH;
        }
        if (node == other || rank < Ranks.UNRANKED || rank > MOST_RANK) {
            return OUTSIDE;
        }
        return ranks.replace(node, other, rank);
    }

    public int stable() {
        return graph.nodes > MOST_STABLE_NODES ? NO_ROOM : currentStables().total;
    }

    public int stableMate(int node) {
        if (!graph.isNode(node)) {
            return NO_SUCH;
        }
        if (graph.nodes > MOST_STABLE_NODES) {
            return NO_ROOM;
        }
        Stables now = currentStables();
        return now.total == 0 ? NONE : graph.arcAt(now.first, node);
    }

    private static boolean isWay(int way) {
        return way >= 0 && way < WAYS;
    }

    private static boolean has(int nodes, int node) {
        return (nodes >> node & 1) != 0;
    }

    private static int leastNode(int nodes) {
        return Integer.bitCount((nodes & -nodes) - 1);
    }

    private static int cell(int a, int b) {
        return a * MOST_NODES + b;
    }

    private static long markOf(int arc) {
        return 1L << MOST_ARCS - 1 - arc;
    }

    private static int arcInPlace(long set, int place) {
        int before = 0;
        for (int arc = 0; arc < MOST_ARCS; arc++) {
            if ((set & markOf(arc)) != 0) {
                if (before == place) {
                    return arc;
                }
                before++;
            }
        }
        return NO_SUCH;
    }

    private static int nodeInPlace(int nodes, int place) {
        int before = 0;
        for (int node = 0; node < MOST_NODES; node++) {
            if (has(nodes, node)) {
                if (before == place) {
                    return node;
                }
                before++;
            }
        }
        return NO_SUCH;
    }

    private Ways currentWays() {
        if (ways == null) {
            ways = new Ways(graph);
        }
        ways.refresh();
        return ways;
    }

    private Sorts currentSorts() {
        if (sorts == null) {
            sorts = new Sorts(graph);
        }
        sorts.refresh(currentWays().chooser.rests);
        return sorts;
    }

    private Counts currentCounts() {
        if (counts == null) {
            counts = new Counts(graph);
        }
        counts.refresh(currentWays().chooser.rests);
        return counts;
    }

    private Holds currentHolds() {
        if (holds == null) {
            holds = new Holds(graph);
        }
        holds.refresh();
        return holds;
    }

    private Joins currentJoins() {
        if (joins == null) {
            joins = new Joins(graph);
        }
        joins.refresh();
        return joins;
    }

    private Stables currentStables() {
        if (stables == null) {
            stables = new Stables(graph, ranks);
        }
        stables.refresh();
        return stables;
    }

    /** The nodes and arcs. Its age goes up with each change, so that others see that they are late. */
    private static final class Graph {
        private int nodes;
        private int made;
        private int living;
        private int age;
        private final int[] oneEnd = new int[MOST_ARCS];
        private final int[] otherEnd = new int[MOST_ARCS];
        private final int[] weights = new int[MOST_ARCS];
        private final boolean[] alive = new boolean[MOST_ARCS];
        private final int[] joined = new int[MOST_NODES];

        boolean isNode(int node) {
            return node >= 0 && node < nodes;
        }

        boolean isArc(int arc) {
            return arc >= 0 && arc < made && alive[arc];
        }

        int allNodes() {
            return (1 << nodes) - 1;
        }

        int addNode() {
            age++;
            nodes++;
            return nodes - 1;
        }

        int addArc(int a, int b, int weight) {
            age++;
            int arc = made;
            made++;
            living++;
            oneEnd[arc] = a;
            otherEnd[arc] = b;
            weights[arc] = weight;
            alive[arc] = true;
            link(arc);
            return arc;
        }

        void removeArc(int arc) {
            age++;
            living--;
            alive[arc] = false;
            // Another arc may join the same nodes, so the links are made anew.
            Arrays.fill(joined, 0);
            for (int other = 0; other < made; other++) {
                if (alive[other]) {
                    link(other);
                }
            }
        }

        void removeAll() {
            age++;
            nodes = 0;
            made = 0;
            living = 0;
            Arrays.fill(joined, 0);
        }

        int weightOf(long set) {
            int sum = 0;
            for (int arc = 0; arc < made; arc++) {
                if ((set & markOf(arc)) != 0) {
                    sum += weights[arc];
                }
            }
            return sum;
        }

        int arcAt(long set, int node) {
            for (int arc = 0; arc < made; arc++) {
                if ((set & markOf(arc)) != 0 && (oneEnd[arc] == node || otherEnd[arc] == node)) {
                    return arc;
                }
            }
            return NONE;
        }

        private void link(int arc) {
            int a = oneEnd[arc];
            int b = otherEnd[arc];
            joined[a] |= 1 << b;
            joined[b] |= 1 << a;
        }
    }

    /** By which number each node ranks each other one. */
    private static final class Ranks {
        private static final int UNRANKED = -1;

        private int age;
        private final int[] given = new int[CELLS];

        Ranks() {
            Arrays.fill(given, UNRANKED);
        }

        int replace(int node, int other, int rank) {
            age++;
            int before = given[cell(node, other)];
            given[cell(node, other)] = rank;
            return before;
        }

        void removeAll() {
            age++;
            Arrays.fill(given, UNRANKED);
        }
    }

    /**
     * The sets of nodes that can be left when nodes are settled from the least on, each alone or
     * with a later one that is joined with it. Of 16 nodes there are 2584 of them at most, a number
     * of Fibonacci's, where all sets would be 65536. What is left of a set stands ahead of it.
     */
    private static final class Rests {
        private static final int MOST_RESTS = 2584;
        private static final int SLOTS = 4096;
        private static final int SPREAD = 0x9E3779B1;
        private static final int SPREAD_SHIFT = 20;

        // A slot is taken only if the place that it names is in use and names the slot in turn;
        // so old slots need no clearing.
        private final int[] slots = new int[SLOTS];
        private final int[] slotOf = new int[MOST_RESTS];
        private final int[] sets = new int[MOST_RESTS];
        private final int[] later = new int[CELLS];
        private final int[] laters = new int[MOST_NODES];
        private boolean mayLeave;
        private int amount;

        void build(int full, int[] joined, boolean leaving) {
            mayLeave = leaving;
            amount = 0;
            for (int node = 0; node < MOST_NODES; node++) {
                listLater(node, joined[node]);
            }
            visit(full, 0);
        }

        int placeOf(int set) {
            int slot = set * SPREAD >>> SPREAD_SHIFT;
            for (int step = 0; step < SLOTS; step++) {
                int place = slots[slot];
                if (place >= amount || slotOf[place] != slot) {
                    return NO_SUCH;
                }
                if (sets[place] == set) {
                    return place;
                }
                slot = slot + 1 & SLOTS - 1;
            }
            return NO_SUCH;
        }

        private void listLater(int node, int beside) {
            int listed = 0;
            for (int other = node + 1; other < MOST_NODES; other++) {
                if (has(beside, other)) {
                    later[cell(node, listed)] = other;
                    listed++;
                }
            }
            laters[node] = listed;
        }

        private void visit(int set, int depth) {
            if (depth > MOST_NODES || placeOf(set) != NO_SUCH) {
                return;
            }
            if (set != 0) {
                int low = leastNode(set);
                int rest = set & set - 1;
                if (mayLeave) {
                    visit(rest, depth + 1);
                }
                for (int i = 0; i < laters[low]; i++) {
                    int other = later[cell(low, i)];
                    if (has(rest, other)) {
                        visit(rest & ~(1 << other), depth + 1);
                    }
                }
            }
            append(set);
        }

        private void append(int set) {
            if (amount == MOST_RESTS) {
                return;
            }
            int slot = set * SPREAD >>> SPREAD_SHIFT;
            for (int step = 0; step < SLOTS && isTaken(slot); step++) {
                slot = slot + 1 & SLOTS - 1;
            }
            slots[slot] = amount;
            slotOf[amount] = slot;
            sets[amount] = set;
            amount++;
        }

        private boolean isTaken(int slot) {
            int place = slots[slot];
            return place < amount && slotOf[place] == slot;
        }
    }

    /**
     * Chooses pairs of the greatest gain, of these those with the greatest mark, for all rests.
     * Gain and mark are sums over the pairs, so the best of a set is made of the best of its rests.
     */
    private static final class Chooser {
        private final Rests rests = new Rests();
        private final int[] gain = new int[CELLS];
        private final long[] mark = new long[CELLS];
        private final int[] bestGain = new int[Rests.MOST_RESTS];
        private final long[] bestMark = new long[Rests.MOST_RESTS];

        void forgetOffers() {
            Arrays.fill(gain, IMPOSSIBLE);
            Arrays.fill(mark, 0L);
        }

        /** Arcs are offered by their numbers, so that of equal ones the least stays. */
        void offer(int a, int b, int newGain, long newMark) {
            if (newGain > gain[cell(a, b)]) {
                gain[cell(a, b)] = newGain;
                gain[cell(b, a)] = newGain;
                mark[cell(a, b)] = newMark;
                mark[cell(b, a)] = newMark;
            }
        }

        void choose(int leaving) {
            for (int place = 0; place < rests.amount; place++) {
                int set = rests.sets[place];
                bestMark[place] = 0L;
                if (set == 0) {
                    bestGain[place] = 0;
                } else {
                    bestGain[place] = IMPOSSIBLE;
                    chooseFor(place, set, leaving);
                }
            }
        }

        boolean found() {
            return rests.amount > 0 && bestGain[rests.amount - 1] != IMPOSSIBLE;
        }

        long chosen() {
            return rests.amount > 0 ? bestMark[rests.amount - 1] : 0L;
        }

        private void chooseFor(int place, int set, int leaving) {
            int low = leastNode(set);
            int rest = set & set - 1;
            if (leaving == LEAVE_FREELY) {
                take(place, rest, 0, 0L);
            } else if (leaving == LEAVE_BY_ARC) {
                long first = firstOutOf(set, low);
                if (first != 0L) {
                    take(place, rest, gainOf(COVER_WAY, 0), first);
                }
            }
            for (int i = 0; i < rests.laters[low]; i++) {
                int other = rests.later[cell(low, i)];
                if (has(rest, other)) {
                    take(place, rest & ~(1 << other), gain[cell(low, other)], mark[cell(low, other)]);
                }
            }
        }

        /** Nodes outside the set are covered already, so of the arcs to them only the FIRST is of use. */
        private long firstOutOf(int set, int low) {
            long first = 0L;
            for (int other = 0; other < MOST_NODES; other++) {
                if (!has(set, other)) {
                    first = Math.max(first, mark[cell(low, other)]);
                }
            }
            return first;
        }

        private void take(int place, int rest, int moreGain, long moreMark) {
            int from = rests.placeOf(rest);
            if (from == NO_SUCH || bestGain[from] == IMPOSSIBLE) {
                return;
            }
            int newGain = bestGain[from] + moreGain;
            long newMark = bestMark[from] + moreMark;
            if (newGain > bestGain[place]
                    || newGain == bestGain[place] && newMark > bestMark[place]) {
                bestGain[place] = newGain;
                bestMark[place] = newMark;
            }
        }

        static int gainOf(int way, int weight) {
            switch (way) {
                case MOST_ARCS_WAY:
                    return 1;
                case DEAREST_WAY:
                    // Eight arcs take off less than a weight of 1 brings: they only part equal weights.
                    return weight * MOST_NODES - 1;
                case CHEAPEST_ALL_WAY:
                    return -weight;
                case DEAREST_ALL_WAY:
                    return weight;
                default:
                    return -1;
            }
        }
    }

    /** The pairs of each way, and the cover as one way more. */
    private static final class Ways {
        private final Graph graph;
        private final Chooser chooser = new Chooser();
        private final boolean[] known = new boolean[WAYS + 1];
        private final boolean[] found = new boolean[WAYS + 1];
        private final long[] sets = new long[WAYS + 1];
        private int age = -1;

        Ways(Graph graph) {
            this.graph = graph;
        }

        void refresh() {
            if (age != graph.age) {
                age = graph.age;
                chooser.rests.build(graph.allNodes(), graph.joined, true);
                for (int way = 0; way <= WAYS; way++) {
                    known[way] = false;
                }
            }
        }

        boolean exists(int way) {
            learn(way);
            return found[way];
        }

        long chosen(int way) {
            learn(way);
            return sets[way];
        }

        private void learn(int way) {
            if (!known[way]) {
                known[way] = true;
                offerArcs(way);
                chooser.choose(leavingOf(way));
                found[way] = chooser.found();
                sets[way] = chooser.chosen();
            }
        }

        private void offerArcs(int way) {
            chooser.forgetOffers();
            for (int arc = 0; arc < graph.made; arc++) {
                if (graph.alive[arc]) {
                    int gain = Chooser.gainOf(way, graph.weights[arc]);
                    chooser.offer(graph.oneEnd[arc], graph.otherEnd[arc], gain, markOf(arc));
                }
            }
        }

        private static int leavingOf(int way) {
            switch (way) {
                case MOST_ARCS_WAY:
                case DEAREST_WAY:
                    return LEAVE_FREELY;
                case COVER_WAY:
                    return LEAVE_BY_ARC;
                default:
                    return LEAVE_NEVER;
            }
        }
    }

    /** The sorts of the nodes, the pieces without those of sort 1, and the parts of the whole graph. */
    private static final class Sorts {
        private static final int ONE_PAIR = 1 << MOST_NODES;

        private final Graph graph;
        private final Parts pieces = new Parts();
        private final Parts whole = new Parts();
        // The greatest size times ONE_PAIR, and the nodes that some pairs of that size leave.
        private final int[] sizeAndLeft = new int[Rests.MOST_RESTS];
        private int lefts;
        private int besides;
        private int uncovered;
        private int age = -1;

        Sorts(Graph graph) {
            this.graph = graph;
        }

        void refresh(Rests rests) {
            if (age != graph.age) {
                age = graph.age;
                findLefts(rests);
                findBesides();
                pieces.split(graph, graph.allNodes() & ~besides);
                whole.split(graph, graph.allNodes());
            }
        }

        int sortOf(int node) {
            if (has(lefts, node)) {
                return 0;
            }
            return has(besides, node) ? 1 : 2;
        }

        private void findLefts(Rests rests) {
            for (int place = 0; place < rests.amount; place++) {
                sizeAndLeft[place] = rests.sets[place] == 0 ? 0 : leftsOf(rests, rests.sets[place]);
            }
            int all = rests.amount > 0 ? sizeAndLeft[rests.amount - 1] : 0;
            lefts = all & ONE_PAIR - 1;
            uncovered = graph.nodes - 2 * (all / ONE_PAIR);
        }

        private int leftsOf(Rests rests, int set) {
            int low = leastNode(set);
            int rest = set & set - 1;
            int best = at(rests, rest) | 1 << low;
            for (int i = 0; i < rests.laters[low]; i++) {
                int other = rests.later[cell(low, i)];
                if (has(rest, other)) {
                    best = better(best, at(rests, rest & ~(1 << other)) + ONE_PAIR);
                }
            }
            return best;
        }

        private int at(Rests rests, int set) {
            int place = rests.placeOf(set);
            return place == NO_SUCH ? 0 : sizeAndLeft[place];
        }

        private static int better(int one, int other) {
            int sizeOfOne = one / ONE_PAIR;
            int sizeOfOther = other / ONE_PAIR;
            if (sizeOfOne == sizeOfOther) {
                return one | other;
            }
            return sizeOfOne > sizeOfOther ? one : other;
        }

        private void findBesides() {
            besides = 0;
            for (int node = 0; node < graph.nodes; node++) {
                if (!has(lefts, node) && (graph.joined[node] & lefts) != 0) {
                    besides |= 1 << node;
                }
            }
        }
    }

    /** The connected parts of some nodes of a graph. */
    private static final class Parts {
        private final int[] part = new int[MOST_NODES];
        private int amount;
        private int odd;
        private boolean twoSided;

        int partOf(int node) {
            return part[node];
        }

        void split(Graph graph, int allowed) {
            amount = 0;
            odd = 0;
            twoSided = true;
            int seen = 0;
            for (int node = 0; node < graph.nodes; node++) {
                if (has(allowed & ~seen, node)) {
                    int members = grow(graph, allowed, node);
                    seen |= members;
                    odd += Integer.bitCount(members) % 2;
                    number(members);
                }
            }
        }

        /** Grows by layers: an arc inside a layer, and only that, closes a ring of odd length. */
        private int grow(Graph graph, int allowed, int start) {
            int members = 1 << start;
            int layer = members;
            for (int round = 0; round < graph.nodes && layer != 0; round++) {
                int beside = besideLayer(graph, layer) & allowed;
                if ((beside & layer) != 0) {
                    twoSided = false;
                }
                layer = beside & ~members;
                members |= layer;
            }
            return members;
        }

        private static int besideLayer(Graph graph, int layer) {
            int beside = 0;
            for (int node = 0; node < graph.nodes; node++) {
                if (has(layer, node)) {
                    beside |= graph.joined[node];
                }
            }
            return beside;
        }

        private void number(int members) {
            for (int node = 0; node < MOST_NODES; node++) {
                if (has(members, node)) {
                    part[node] = amount;
                }
            }
            amount++;
        }
    }

    /** How many different pairs there are of each size. */
    private static final class Counts {
        private static final int SIZES = MOST_PAIRS + 1;

        private final Graph graph;
        private final int[] several = new int[CELLS];
        private final long[] numbers = new long[Rests.MOST_RESTS * SIZES];
        private int last = -1;
        private int age = -1;

        Counts(Graph graph) {
            this.graph = graph;
        }

        void refresh(Rests rests) {
            if (age != graph.age) {
                age = graph.age;
                countArcs();
                for (int place = 0; place < rests.amount; place++) {
                    countFor(rests, place);
                }
                last = rests.amount - 1;
            }
        }

        long ofSize(int size) {
            return last >= 0 && size >= 0 && size < SIZES ? numbers[last * SIZES + size] : 0L;
        }

        private void countArcs() {
            Arrays.fill(several, 0);
            for (int arc = 0; arc < graph.made; arc++) {
                if (graph.alive[arc]) {
                    several[cell(graph.oneEnd[arc], graph.otherEnd[arc])]++;
                    several[cell(graph.otherEnd[arc], graph.oneEnd[arc])]++;
                }
            }
        }

        private void countFor(Rests rests, int place) {
            for (int size = 0; size < SIZES; size++) {
                numbers[place * SIZES + size] = 0L;
            }
            int set = rests.sets[place];
            if (set == 0) {
                numbers[place * SIZES] = 1L;
                return;
            }
            int low = leastNode(set);
            int rest = set & set - 1;
            add(place, rests.placeOf(rest), 0, 1L);
            for (int i = 0; i < rests.laters[low]; i++) {
                int other = rests.later[cell(low, i)];
                if (has(rest, other)) {
                    int from = rests.placeOf(rest & ~(1 << other));
                    add(place, from, 1, several[cell(low, other)]);
                }
            }
        }

        private void add(int place, int from, int morePairs, long times) {
            if (from == NO_SUCH) {
                return;
            }
            for (int size = morePairs; size < SIZES; size++) {
                long fewer = numbers[from * SIZES + size - morePairs];
                numbers[place * SIZES + size] += times * fewer;
            }
        }
    }

    /** The hold: for each node, either it is in it or all nodes that are joined with it are. */
    private static final class Holds {
        private static final int ONE_NODE = 1 << MOST_NODES;

        private final Graph graph;
        // Here node 0 has the highest bit, so that of two sets the FIRST is the greater number.
        private final int[] flipped = new int[MOST_NODES];
        private int chosen;
        private int age = -1;

        Holds(Graph graph) {
            this.graph = graph;
        }

        void refresh() {
            if (age != graph.age) {
                age = graph.age;
                for (int node = 0; node < MOST_NODES; node++) {
                    flipped[MOST_NODES - 1 - node] = flip(graph.joined[node]);
                }
                chosen = flip(nodesOf(leastPrice(ONE_NODE - 1, 0)));
            }
        }

        private static int flip(int nodes) {
            int turned = 0;
            for (int node = 0; node < MOST_NODES; node++) {
                turned = turned << 1 | nodes >> node & 1;
            }
            return turned;
        }

        /** Of prices the less has fewer nodes or, of as many, comes ahead; and prices can be added. */
        private static int priceOf(int nodes) {
            return Integer.bitCount(nodes) * ONE_NODE - nodes;
        }

        private static int nodesOf(int price) {
            return -price & ONE_NODE - 1;
        }

        private int leastPrice(int nodes, int depth) {
            int busiest = busiestOf(nodes);
            if (depth > MOST_NODES || busiest == NO_SUCH) {
                return 0;
            }
            int beside = flipped[busiest] & nodes;
            int rest = nodes & ~(1 << busiest);
            int with = priceOf(1 << busiest) + leastPrice(rest, depth + 1);
            int without = priceOf(beside) + leastPrice(rest & ~beside, depth + 1);
            return Math.min(with, without);
        }

        private int busiestOf(int nodes) {
            int busiest = NO_SUCH;
            int most = 0;
            for (int node = 0; node < MOST_NODES; node++) {
                int arcs = has(nodes, node) ? Integer.bitCount(flipped[node] & nodes) : 0;
                if (arcs > most) {
                    most = arcs;
                    busiest = node;
                }
            }
            return busiest;
        }
    }

    /**
     * The joins: the told nodes in pairs, each pair by its shortest path. Each arc has a length
     * above 0, so the best paths have no arc in common, and their marks add up to the set.
     */
    private static final class Joins {
        // A path has fewer arcs than this, so the number of arcs only parts equal weights.
        private static final int ONE_WEIGHT = 1024;

        private final Graph graph;
        private final Chooser chooser = new Chooser();
        private final int[] reached = new int[MOST_NODES];
        private long told;
        private boolean isTold;
        private boolean pathsKnown;
        private int age = -1;

        Joins(Graph graph) {
            this.graph = graph;
        }

        void refresh() {
            if (age != graph.age) {
                age = graph.age;
                isTold = false;
                pathsKnown = false;
            }
        }

        boolean tell(int mask) {
            findPaths();
            chooser.rests.build(mask, reached, false);
            chooser.choose(LEAVE_NEVER);
            if (!chooser.found()) {
                return false;
            }
            isTold = true;
            told = chooser.chosen();
            return true;
        }

        private void findPaths() {
            if (pathsKnown) {
                return;
            }
            pathsKnown = true;
            chooser.forgetOffers();
            for (int arc = 0; arc < graph.made; arc++) {
                if (graph.alive[arc]) {
                    int gain = -(graph.weights[arc] * ONE_WEIGHT + 1);
                    chooser.offer(graph.oneEnd[arc], graph.otherEnd[arc], gain, markOf(arc));
                }
            }
            for (int middle = 0; middle < graph.nodes; middle++) {
                for (int start = 0; start < graph.nodes; start++) {
                    if (chooser.gain[cell(start, middle)] != IMPOSSIBLE) {
                        lengthen(start, middle);
                    }
                }
            }
            findReached();
        }

        private void lengthen(int start, int middle) {
            int firstGain = chooser.gain[cell(start, middle)];
            long firstMark = chooser.mark[cell(start, middle)];
            for (int end = 0; end < graph.nodes; end++) {
                int on = cell(middle, end);
                if (end != start && chooser.gain[on] != IMPOSSIBLE) {
                    improve(cell(start, end), firstGain + chooser.gain[on], firstMark + chooser.mark[on]);
                }
            }
        }

        private void improve(int at, int newGain, long newMark) {
            if (newGain > chooser.gain[at]
                    || newGain == chooser.gain[at] && newMark > chooser.mark[at]) {
                chooser.gain[at] = newGain;
                chooser.mark[at] = newMark;
            }
        }

        private void findReached() {
            for (int start = 0; start < MOST_NODES; start++) {
                reached[start] = 0;
                for (int end = 0; end < MOST_NODES; end++) {
                    if (chooser.gain[cell(start, end)] != IMPOSSIBLE) {
                        reached[start] |= 1 << end;
                    }
                }
            }
        }
    }

    /** All stable pairs of at most 12 nodes: how many, and the first. */
    private static final class Stables {
        private final Graph graph;
        private final Ranks ranks;
        private final long[] arcBetween = new long[CELLS];
        private final int[] open = new int[MOST_NODES];
        // Whom a node would rather have than another one, or than nobody in its own cell.
        private final int[] sooner = new int[CELLS];
        private final int[] wanted = new int[MOST_NODES];
        private int total;
        private long first;
        private int graphAge = -1;
        private int ranksAge = -1;

        Stables(Graph graph, Ranks ranks) {
            this.graph = graph;
            this.ranks = ranks;
        }

        void refresh() {
            if (graphAge != graph.age || ranksAge != ranks.age) {
                graphAge = graph.age;
                ranksAge = ranks.age;
                findArcs();
                for (int node = 0; node < graph.nodes; node++) {
                    open[node] = openTo(node);
                }
                for (int node = 0; node < graph.nodes; node++) {
                    findSooner(node);
                }
                total = 0;
                first = 0L;
                settle(0, 0L, 0);
            }
        }

        private void findArcs() {
            Arrays.fill(arcBetween, 0L);
            for (int arc = 0; arc < graph.made; arc++) {
                if (graph.alive[arc]) {
                    int there = cell(graph.oneEnd[arc], graph.otherEnd[arc]);
                    int back = cell(graph.otherEnd[arc], graph.oneEnd[arc]);
                    arcBetween[there] = Math.max(arcBetween[there], markOf(arc));
                    arcBetween[back] = arcBetween[there];
                }
            }
        }

        private int openTo(int node) {
            int others = 0;
            for (int other = 0; other < graph.nodes; other++) {
                boolean bothRank = ranks.given[cell(node, other)] != Ranks.UNRANKED
                        && ranks.given[cell(other, node)] != Ranks.UNRANKED;
                if (bothRank && has(graph.joined[node], other)) {
                    others |= 1 << other;
                }
            }
            return others;
        }

        private void findSooner(int node) {
            for (int partner = 0; partner < graph.nodes; partner++) {
                int limit = ranks.given[cell(node, partner)];
                int others = 0;
                for (int other = 0; other < graph.nodes; other++) {
                    if (has(open[node], other) && ranks.given[cell(node, other)] < limit) {
                        others |= 1 << other;
                    }
                }
                sooner[cell(node, partner)] = others;
            }
            sooner[cell(node, node)] = open[node];
        }

        /** Settles the least node that is not settled yet, and so on; depth is how many came before. */
        private void settle(int settled, long set, int depth) {
            int free = graph.allNodes() & ~settled;
            if (depth > MOST_NODES) {
                return;
            }
            if (free == 0) {
                total++;
                first = Math.max(first, set);
                return;
            }
            int node = leastNode(free);
            wanted[node] = sooner[cell(node, node)];
            if (!isTempted(node, settled)) {
                settle(settled | 1 << node, set, depth + 1);
            }
            int partners = open[node] & free;
            for (int other = node + 1; other < graph.nodes; other++) {
                if (has(partners, other) && canPair(node, other, settled)) {
                    int both = 1 << node | 1 << other;
                    settle(settled | both, set | arcBetween[cell(node, other)], depth + 1);
                }
            }
        }

        private boolean canPair(int node, int other, int settled) {
            wanted[node] = sooner[cell(node, other)];
            wanted[other] = sooner[cell(other, node)];
            return !isTempted(node, settled) && !isTempted(other, settled);
        }

        /** Whether the node and a settled one would both rather have one another. */
        private boolean isTempted(int node, int settled) {
            int others = wanted[node] & settled;
            if (others == 0) {
                return false;
            }
            for (int other = 0; other < graph.nodes; other++) {
                if (has(others, other) && has(wanted[other], node)) {
                    return true;
                }
            }
            return false;
        }
    }
}
