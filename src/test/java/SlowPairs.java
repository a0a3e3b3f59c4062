import java.util.ArrayList;
import java.util.List;
import java.util.TreeSet;
import java.util.function.Predicate;
import java.util.function.ToLongFunction;

/**
 * The document said again, word by word and slowly: each answer comes from going through all sets of
 * arcs or nodes. Only for graphs with few arcs.
 */
final class SlowPairs {
    private record Arc(int number, int a, int b, int weight) {
        boolean touches(int node) {
            return a == node || b == node;
        }

        boolean isBetween(int one, int other) {
            return touches(one) && touches(other);
        }
    }

    private int nodes;
    private int made;
    private final List<Arc> arcs = new ArrayList<>();
    private final int[][] ranks = new int[16][16];
    private List<Arc> told;
    private List<List<Arc>> allSets;
    private List<List<Arc>> allPairs;

    SlowPairs() {
        clear();
    }

    int livingArcs() {
        return arcs.size();
    }

    int node() {
        if (nodes == 16) {
            return -4;
        }
        changed();
        return nodes++;
    }

    int arc(int a, int b, int weight) {
        if (!isNode(a) || !isNode(b)) {
            return -1;
        }
        if (a == b || weight < 0 || weight > 1000) {
            return -2;
        }
        if (made == 60) {
            return -4;
        }
        changed();
        arcs.add(new Arc(made, a, b, weight));
        return made++;
    }

    int cut(int number) {
        if (!arcs.removeIf(arc -> arc.number == number)) {
            return -1;
        }
        changed();
        return arcs.size();
    }

    int clear() {
        changed();
        int before = nodes;
        nodes = 0;
        made = 0;
        arcs.clear();
        for (int[] row : ranks) {
            java.util.Arrays.fill(row, -1);
        }
        return before;
    }

    int pairs(int way) {
        if (way < 0 || way > 3) {
            return -1;
        }
        List<Arc> set = way(way);
        return set == null ? -3 : set.size();
    }

    int weight(int way) {
        if (way < 0 || way > 3) {
            return -1;
        }
        List<Arc> set = way(way);
        return set == null ? -3 : (int) weightOf(set);
    }

    int mate(int way, int node) {
        return way < 0 || way > 3 || !isNode(node) ? -1 : arcAt(way(way), node);
    }

    int sort(int node) {
        if (!isNode(node)) {
            return -1;
        }
        if (isLeft(node)) {
            return 0;
        }
        for (Arc arc : arcs) {
            if (arc.touches(node) && isLeft(arc.a == node ? arc.b : arc.a)) {
                return 1;
            }
        }
        return 2;
    }

    int piece(int node) {
        if (!isNode(node)) {
            return -1;
        }
        return sort(node) == 1 ? -3 : pieces().get(node);
    }

    int shape(int what) {
        switch (what) {
            case 0:
                return (int) java.util.stream.IntStream.range(0, nodes).filter(node -> sort(node) == 1).count();
            case 1:
                return oddPieces();
            case 2:
                return nodes - 2 * pairs(0);
            case 3:
                return canBeParted() ? 1 : 0;
            case 4:
                return new TreeSet<>(parts(new TreeSet<>())).size();
            default:
                return -1;
        }
    }

    long count(int size) {
        return size < 0 ? -2 : pairSets().stream().filter(set -> set.size() == size).count();
    }

    int cover() {
        List<Arc> set = coverSet();
        return set == null ? -3 : set.size();
    }

    int coverArc(int i) {
        return inPlace(coverSet(), i);
    }

    int hold() {
        return holdSet().size();
    }

    int holdNode(int i) {
        List<Integer> set = holdSet();
        return i < 0 || i >= set.size() ? -1 : set.get(i);
    }

    int join(int mask) {
        if (mask >>> nodes != 0) {
            return -2;
        }
        List<Arc> set = firstOf(sets(), chosen -> oddNodes(chosen) == mask,
                chosen -> weightOf(chosen) * 100 + chosen.size());
        if (set == null) {
            return -3;
        }
        told = set;
        return (int) weightOf(set);
    }

    int joinArc(int i) {
        return inPlace(told, i);
    }

    int rank(int node, int other, int rank) {
        if (!isNode(node) || !isNode(other)) {
            return -1;
        }
        if (node == other || rank < -1 || rank > 99) {
            return -2;
        }
        int before = ranks[node][other];
        ranks[node][other] = rank;
        return before;
    }

    int stable() {
        return nodes > 12 ? -4 : (int) pairSets().stream().filter(this::isStable).count();
    }

    int stableMate(int node) {
        if (!isNode(node)) {
            return -1;
        }
        return nodes > 12 ? -4 : arcAt(firstOf(pairSets(), this::isStable, set -> 0), node);
    }

    private void changed() {
        told = null;
        allSets = null;
        allPairs = null;
    }

    private boolean isNode(int node) {
        return node >= 0 && node < nodes;
    }

    private List<List<Arc>> sets() {
        if (allSets == null) {
            allSets = new ArrayList<>();
            for (int chosen = 0; chosen < 1 << arcs.size(); chosen++) {
                List<Arc> set = new ArrayList<>();
                for (int i = 0; i < arcs.size(); i++) {
                    if ((chosen >> i & 1) != 0) {
                        set.add(arcs.get(i));
                    }
                }
                allSets.add(set);
            }
        }
        return allSets;
    }

    private List<List<Arc>> pairSets() {
        if (allPairs == null) {
            allPairs = sets().stream().filter(this::arePairs).toList();
        }
        return allPairs;
    }

    private boolean arePairs(List<Arc> set) {
        for (int node = 0; node < nodes; node++) {
            if (arcsAt(set, node) > 1) {
                return false;
            }
        }
        return true;
    }

    private static int arcsAt(List<Arc> set, int node) {
        int number = 0;
        for (Arc arc : set) {
            number += arc.touches(node) ? 1 : 0;
        }
        return number;
    }

    private static int arcAt(List<Arc> set, int node) {
        if (set != null) {
            for (Arc arc : set) {
                if (arc.touches(node)) {
                    return arc.number;
                }
            }
        }
        return -3;
    }

    private static int inPlace(List<Arc> set, int i) {
        if (set == null) {
            return -3;
        }
        return i < 0 || i >= set.size() ? -1 : set.get(i).number;
    }

    private static long weightOf(List<Arc> set) {
        return set.stream().mapToLong(arc -> arc.weight).sum();
    }

    private boolean coversAll(List<Arc> set) {
        for (int node = 0; node < nodes; node++) {
            if (arcsAt(set, node) == 0) {
                return false;
            }
        }
        return true;
    }

    private int oddNodes(List<Arc> set) {
        int odd = 0;
        for (Arc arc : set) {
            odd ^= 1 << arc.a ^ 1 << arc.b;
        }
        return odd;
    }

    private List<Arc> way(int way) {
        switch (way) {
            case 0:
                return firstOf(pairSets(), set -> true, set -> -set.size());
            case 1:
                return firstOf(pairSets(), set -> true, set -> set.size() - 100 * weightOf(set));
            case 2:
                return firstOf(pairSets(), this::coversAll, SlowPairs::weightOf);
            default:
                return firstOf(pairSets(), this::coversAll, set -> -weightOf(set));
        }
    }

    private List<Arc> coverSet() {
        return firstOf(sets(), this::coversAll, List::size);
    }

    /** Of those that fit and have the least price, the FIRST; null if none fits. */
    private static List<Arc> firstOf(List<List<Arc>> sets, Predicate<List<Arc>> fits, ToLongFunction<List<Arc>> price) {
        List<Arc> best = null;
        for (List<Arc> set : sets) {
            if (fits.test(set)) {
                long less = best == null ? -1 : price.applyAsLong(set) - price.applyAsLong(best);
                if (less < 0 || less == 0 && isAhead(numbers(set), numbers(best))) {
                    best = set;
                }
            }
        }
        return best;
    }

    private static TreeSet<Integer> numbers(List<Arc> set) {
        TreeSet<Integer> numbers = new TreeSet<>();
        for (Arc arc : set) {
            numbers.add(arc.number);
        }
        return numbers;
    }

    private static boolean isAhead(TreeSet<Integer> one, TreeSet<Integer> other) {
        for (int number = 0; number < 60; number++) {
            if (one.contains(number) != other.contains(number)) {
                return one.contains(number);
            }
        }
        return false;
    }

    private boolean isLeft(int node) {
        int most = pairs(0);
        return pairSets().stream().anyMatch(set -> set.size() == most && arcsAt(set, node) == 0);
    }

    /** For each node the number of its part, by the least nodes; -1 for those that are taken out. */
    private List<Integer> parts(TreeSet<Integer> takenOut) {
        int[] part = new int[nodes];
        for (int node = 0; node < nodes; node++) {
            part[node] = takenOut.contains(node) ? -1 : node;
        }
        for (int round = 0; round < nodes; round++) {
            for (Arc arc : arcs) {
                if (part[arc.a] >= 0 && part[arc.b] >= 0) {
                    int least = Math.min(part[arc.a], part[arc.b]);
                    part[arc.a] = least;
                    part[arc.b] = least;
                }
            }
        }
        TreeSet<Integer> least = new TreeSet<>();
        for (int node = 0; node < nodes; node++) {
            if (part[node] >= 0) {
                least.add(part[node]);
            }
        }
        List<Integer> numbers = new ArrayList<>();
        for (int node = 0; node < nodes; node++) {
            numbers.add(part[node] < 0 ? -1 : least.headSet(part[node]).size());
        }
        return numbers;
    }

    private List<Integer> pieces() {
        TreeSet<Integer> takenOut = new TreeSet<>();
        for (int node = 0; node < nodes; node++) {
            if (sort(node) == 1) {
                takenOut.add(node);
            }
        }
        return parts(takenOut);
    }

    private int oddPieces() {
        int[] members = new int[16];
        for (int piece : pieces()) {
            if (piece >= 0) {
                members[piece]++;
            }
        }
        int odd = 0;
        for (int number : members) {
            odd += number % 2;
        }
        return odd;
    }

    private boolean canBeParted() {
        for (int side = 0; side < 1 << nodes; side++) {
            int parting = side;
            if (arcs.stream().allMatch(arc -> (parting >> arc.a & 1) != (parting >> arc.b & 1))) {
                return true;
            }
        }
        return false;
    }

    private List<Integer> holdSet() {
        List<Integer> best = null;
        for (int chosen = 0; chosen < 1 << nodes; chosen++) {
            int holding = chosen;
            if (arcs.stream().allMatch(arc -> (holding >> arc.a & 1) != 0 || (holding >> arc.b & 1) != 0)) {
                List<Integer> set = new ArrayList<>();
                for (int node = 0; node < nodes; node++) {
                    if ((chosen >> node & 1) != 0) {
                        set.add(node);
                    }
                }
                if (best == null || set.size() < best.size()
                        || set.size() == best.size() && isAhead(new TreeSet<>(set), new TreeSet<>(best))) {
                    best = set;
                }
            }
        }
        return best;
    }

    private boolean areOpen(int a, int b) {
        return a != b && leastBetween(a, b) >= 0 && ranks[a][b] >= 0 && ranks[b][a] >= 0;
    }

    private int leastBetween(int a, int b) {
        return arcs.stream().filter(arc -> arc.isBetween(a, b)).mapToInt(arc -> arc.number).min().orElse(-1);
    }

    private boolean isStable(List<Arc> set) {
        int[] partner = new int[nodes];
        java.util.Arrays.fill(partner, -1);
        for (Arc arc : set) {
            if (!areOpen(arc.a, arc.b) || leastBetween(arc.a, arc.b) != arc.number) {
                return false;
            }
            partner[arc.a] = arc.b;
            partner[arc.b] = arc.a;
        }
        for (int a = 0; a < nodes; a++) {
            for (int b = a + 1; b < nodes; b++) {
                if (areOpen(a, b) && wouldGo(a, b, partner[a]) && wouldGo(b, a, partner[b])) {
                    return false;
                }
            }
        }
        return true;
    }

    private boolean wouldGo(int node, int to, int from) {
        return from < 0 || ranks[node][to] < ranks[node][from];
    }
}
