/** The sentences of promises 1 to 21 that name a boundary: each has a test of its own, in their order. */
public final class BoundaryTests extends Sentences {
    private static final int MIN = Integer.MIN_VALUE;
    private static final int MAX = Integer.MAX_VALUE;

    public static void main(String[] args) {
        BoundaryTests tests = new BoundaryTests();
        tests.changes();
        tests.waysOfPairs();
        tests.sortsAndShapes();
        tests.coversAndHolds();
        tests.joins();
        tests.ranks();
        tests.end();
    }

    private void changes() {
        sentence("1: No NODES", this::newObject);
        sentence("2: A NODE more: its number", this::nodeNumbers);
        sentence("2: -4", this::nodeWithoutRoom);
        sentence("3: An ARC more: its number", this::arcNumbers);
        sentence("3: -1", this::arcWithoutNode);
        sentence("3: -2 both are the same", this::arcToItself);
        sentence("3: -2 the weight is not 0 .. 1000", this::arcWeights);
        sentence("3: -4", this::arcWithoutRoom);
        sentence("4: An ARC is no more: how many there are", this::cutToTheLast);
        sentence("4: An ARC is no more, for no call", this::cutForEachCall);
        sentence("4: -1", this::cutOfNoArc);
        sentence("5: No NODES: how many NODES there were", this::clearNodes);
        sentence("5: No ARCS", this::clearArcs);
        sentence("5: No RANKS", this::clearRanks);
    }

    private void newObject() {
        due("clear", new PairMatching().clear(), 0);
        dueOutside("sort", 0, node -> new PairMatching().sort(node), -1);
        dueOutside("piece", 0, node -> new PairMatching().piece(node), -1);
        dueOutside("mate", 0, node -> new PairMatching().mate(0, node), -1);
        dueOutside("stableMate", 0, node -> new PairMatching().stableMate(node), -1);
        dueOutside("cut", 0, arc -> new PairMatching().cut(arc), -1);
        dueInside("pairs", 4, way -> new PairMatching().pairs(way), 0);
        dueInside("weight", 4, way -> new PairMatching().weight(way), 0);
        dueInTurn("shape", what -> new PairMatching().shape(what), 0, 0, 0, 1, 0, -1);
        dueInTurn("count", size -> new PairMatching().count(size), 1, 0, 0, 0, 0, 0, 0, 0, 0, 0);
        due("arc", new PairMatching().arc(0, 1, 1), -1);
        due("rank", new PairMatching().rank(0, 1, 1), -1);
        due("cover", new PairMatching().cover(), 0);
        dueOutside("coverArc", 0, i -> new PairMatching().coverArc(i), -1);
        due("hold", new PairMatching().hold(), 0);
        dueOutside("holdNode", 0, i -> new PairMatching().holdNode(i), -1);
        due("join of none", new PairMatching().join(0), 0);
        due("join of node 0", new PairMatching().join(1), -2);
        due("joinArc", new PairMatching().joinArc(0), -3);
        due("stable", new PairMatching().stable(), 1);
    }

    private void nodeNumbers() {
        PairMatching x = new PairMatching();
        for (int node = 0; node < 16; node++) {
            due("sort of the next one", x.sort(node), -1);
            due("node", x.node(), node);
            due("sort of it", x.sort(node), 0);
        }
    }

    private void nodeWithoutRoom() {
        PairMatching x = Given.graph(15);
        due("the 16th", x.node(), 15);
        due("the 17th", x.node(), -4);
        due("there is no node 16", x.sort(16), -1);
        x.clear();
        due("room again", x.node(), 0);
        PairMatching arcs = Given.graph(2);
        Given.useUpArcs(arcs, 60);
        due("arcs take no room of nodes", arcs.node(), 2);
    }

    private void arcNumbers() {
        PairMatching x = Given.graph(2);
        for (int arc = 0; arc < 60; arc++) {
            due("cut of the next one", x.cut(arc), -1);
            due("arc", x.arc(0, 1, 1), arc);
        }
        PairMatching ends = Given.graph(16);
        due("from the first node to the last", ends.arc(0, 15, 1), 0);
        due("and back", ends.arc(15, 0, 1), 1);
        due("it joins them", ends.mate(0, 15), 0);
        due("and nobody else", ends.pairs(0), 1);
    }

    private void arcWithoutNode() {
        for (int nodes : new int[] {0, 1, 2, 15, 16}) {
            PairMatching x = Given.graph(nodes);
            dueOutside("from no node", nodes, a -> x.arc(a, 0, 1), -1);
            dueOutside("to no node", nodes, b -> x.arc(0, b, 1), -1);
            dueOutside("from no node to itself", nodes, a -> x.arc(a, a, 1), -1);
        }
    }

    private void arcToItself() {
        PairMatching x = Given.graph(16);
        dueInside("arc", 16, node -> x.arc(node, node, 0), -2);
        due("one node", Given.graph(1).arc(0, 0, 1000), -2);
        due("none was made", x.count(1), 0);
    }

    private void arcWeights() {
        PairMatching x = Given.graph(2);
        for (int weight : new int[] {-1, -2, -1000, 1001, 1002, 1024, 2000, 65536, MIN, MIN + 1, MAX, MAX - 1}) {
            due("weight " + weight, x.arc(0, 1, weight), -2);
        }
        due("none was made", x.count(1), 0);
        due("weight 0", x.arc(0, 1, 0), 0);
        due("it counts", x.weight(3), 0);
        due("weight 1000", x.arc(0, 1, 1000), 1);
        due("it counts", x.weight(3), 1000);
        due("weight 1", x.arc(0, 1, 1), 2);
        due("weight 999", x.arc(0, 1, 999), 3);
    }

    private void arcWithoutRoom() {
        PairMatching x = Given.graph(3);
        for (int arc = 0; arc < 59; arc++) {
            x.arc(0, 1, 1);
        }
        due("the 60th", x.arc(0, 1, 1), 59);
        due("the 61st", x.arc(1, 2, 1000), -4);
        due("it does not join", x.mate(0, 2), -3);
        x.cut(0);
        due("a cut makes no room", x.arc(1, 2, 1), -4);
        x.clear();
        Given.addNodes(x, 2);
        due("clear makes room", x.arc(0, 1, 1), 0);
    }

    private void cutToTheLast() {
        PairMatching x = Given.full();
        for (int arc = 0; arc < 60; arc++) {
            due("cut", x.cut(arc), 59 - arc);
            due("it is no more", x.count(1), 59 - arc);
        }
        due("no pairs", x.pairs(0), 0);
        PairMatching back = Given.full();
        for (int arc = 59; arc >= 0; arc--) {
            due("cut from the last on", back.cut(arc), arc);
        }
    }

    /** Each call is asked ahead of the cut, so that it would be seen if it kept what it knew. */
    private void cutForEachCall() {
        PairMatching x = Given.graph(4, "0-2:0 0-1:9 1-2:9 2-3:9");
        Given.rankBoth(x, 0, 2, 1, 1);
        Given.rankBoth(x, 1, 2, 5, 5);
        askAll(x);
        dueInTurn("pairs ahead of it", way -> x.mate(way, 0), 1, 1, 1, 1);
        dueInTurn("cover ahead of it", x::coverArc, 1, 3, -1);
        due("join ahead of it", x.join(0b0101), 0);
        due("stable ahead of it", x.stableMate(2), 0);
        due("parted ahead of it", x.shape(3), 0);
        due("cut", x.cut(0), 3);
        due("count", x.count(1), 3);
        due("join", x.join(0b0101), 18);
        dueInTurn("join", x::joinArc, 1, 2, -1);
        due("stable", x.stableMate(2), 2);
        due("parted", x.shape(3), 1);
        due("cut", x.cut(1), 2);
        dueInTurn("pairs", x::pairs, 1, 1, -3, -3);
        due("sort", x.sort(0), 0);
        due("piece", x.piece(2), -3);
        due("count", x.count(2), 0);
        due("cover", x.cover(), -3);
        dueInTurn("hold", x::holdNode, 2, -1);
        due("parts", x.shape(4), 2);
        due("cut", x.cut(2), 1);
        due("stable", x.stableMate(2), -3);
        due("join", x.join(0b0110), -3);
        cutOutOfCover();
    }

    private void cutOutOfCover() {
        PairMatching x = Given.graph(3, "0-2:1 0-1:1 1-2:1 0-2:1");
        dueInTurn("cover with arc 0", x::coverArc, 0, 1, -1);
        x.cut(0);
        dueInTurn("cover without it", x::coverArc, 1, 2, -1);
        x.cut(2);
        dueInTurn("cover with the last", x::coverArc, 1, 3, -1);
        x.cut(3);
        dueInTurn("no cover", x::coverArc, -3, -3);
    }

    private void cutOfNoArc() {
        PairMatching x = Given.graph(2, "0-1:1 0-1:1");
        dueOutside("cut", 2, x::cut, -1);
        due("cut", x.cut(1), 1);
        due("cut already", x.cut(1), -1);
        due("the other is there", x.cut(0), 0);
        due("cut already", x.cut(0), -1);
        dueOutside("cut of 60", 60, Given.full()::cut, -1);
        x.clear();
        dueOutside("cut after clear", 0, x::cut, -1);
    }

    private void clearNodes() {
        for (int nodes : new int[] {0, 1, 15, 16}) {
            PairMatching x = Given.graph(nodes);
            due("clear of " + nodes, x.clear(), nodes);
            due("clear again", x.clear(), 0);
            dueOutside("sort", 0, x::sort, -1);
            due("the first node again", x.node(), 0);
        }
        due("refused nodes are not counted", clearedAfterRefusal(), 16);
    }

    private static int clearedAfterRefusal() {
        PairMatching x = Given.graph(20);
        return x.clear();
    }

    private void clearArcs() {
        PairMatching x = Given.full();
        askAll(x);
        x.clear();
        dueInside("cut", 60, x::cut, -1);
        due("empty", x.pairs(2), 0);
        due("empty", x.count(1), 0);
        due("empty", x.cover(), 0);
        due("empty", x.hold(), 0);
        Given.addNodes(x, 16);
        due("nodes without arcs", x.pairs(0), 0);
        due("nodes without arcs", x.count(1), 0);
        due("nodes without arcs", x.cover(), -3);
        due("nodes without arcs", x.hold(), 0);
        due("nodes without arcs", x.shape(4), 16);
        due("nodes without arcs", x.join(3), -3);
        for (int arc = 0; arc < 60; arc++) {
            due("arcs from 0 on", x.arc(0, 1, 1), arc);
        }
        due("and 60 of them", x.arc(0, 1, 1), -4);
        due("a cut tells those that are there now", x.cut(0), 59);
        x.clear();
        Given.addNodes(x, 2);
        x.arc(0, 1, 1);
        due("a cut tells those that are there now", x.cut(0), 0);
    }

    private static void askAll(PairMatching x) {
        askOthers(x);
        x.join(3);
    }

    private static void askOthers(PairMatching x) {
        x.pairs(0);
        x.pairs(2);
        x.sort(0);
        x.count(1);
        x.cover();
        x.hold();
        x.stable();
    }

    private void clearRanks() {
        PairMatching x = Given.graph(12, "0-1:1 10-11:1");
        Given.rankBoth(x, 0, 1, 0, 99);
        Given.rankBoth(x, 10, 11, 99, 0);
        x.stable();
        x.clear();
        Given.addNodes(x, 12);
        Given.addArcs(x, "0-1:1 10-11:1");
        due("nobody is open", x.stableMate(0), -3);
        due("nobody is open", x.stableMate(11), -3);
        for (int node = 0; node < 12; node++) {
            for (int other = 0; other < 12; other++) {
                due("rank", x.rank(node, other, 5), node == other ? -2 : -1);
            }
        }
    }

    private void waysOfPairs() {
        sentence("6: The size of a WAY's PAIRS", this::pairSizes);
        sentence("6: -1", this::pairsOfNoWay);
        sentence("6: -3 there are none that are ALL", this::pairsThatAreNotAll);
        sentence("7: Their weight", this::pairWeights);
        sentence("7: -1", this::weightOfNoWay);
        sentence("7: -3", this::weightOfNone);
        sentence("8: The ARC of a WAY's PAIRS that COVERS a NODE", this::mates);
        sentence("8: -1 (WAY, NODE)", this::mateOfNoWayOrNode);
        sentence("8: -3 there are no such PAIRS", this::mateOfNoPairs);
        sentence("8: -3 it is not COVERED", this::mateOfLeftNode);
    }

    private void pairSizes() {
        dueInside("empty", 4, new PairMatching()::pairs, 0);
        dueInTurn("one node", Given.graph(1)::pairs, 0, 0, -3, -3);
        dueInTurn("two nodes", Given.graph(2, "0-1:1")::pairs, 1, 1, 1, 1);
        dueInside("full", 4, Given.full()::pairs, 8);
    }

    private void pairsOfNoWay() {
        dueOutside("empty", 4, new PairMatching()::pairs, -1);
        dueOutside("ordinary", 4, Given.path()::pairs, -1);
        dueOutside("full", 4, Given.full()::pairs, -1);
    }

    private void pairsThatAreNotAll() {
        dueInTurn("an odd number", Given.triangle()::pairs, 1, 1, -3, -3);
        dueInTurn("no arcs", Given.graph(16)::pairs, 0, 0, -3, -3);
        dueInTurn("two odd parts", Given.graph(6, "0-1:1 1-2:1 2-0:1 3-4:1 4-5:1 5-3:1")::pairs, 2, 2, -3, -3);
        PairMatching x = Given.graph(2, "0-1:1");
        x.node();
        dueInTurn("a node more", x::pairs, 1, 1, -3, -3);
        x.node();
        x.arc(2, 3, 1);
        dueInTurn("all again", x::pairs, 2, 2, 2, 2);
        x.cut(0);
        dueInTurn("a cut", x::pairs, 1, 1, -3, -3);
    }

    private void pairWeights() {
        dueInside("empty", 4, new PairMatching()::weight, 0);
        dueInTurn("no arcs", Given.graph(2)::weight, 0, 0, -3, -3);
        dueInside("nothing", 4, Given.graph(2, "0-1:0")::weight, 0);
        dueInside("full", 4, Given.full()::weight, 8000);
        dueInTurn("four ways", Given.graph(2, "0-1:5 0-1:9 0-1:2")::weight, 5, 9, 2, 9);
    }

    private void weightOfNoWay() {
        dueOutside("empty", 4, new PairMatching()::weight, -1);
        dueOutside("ordinary", 4, Given.path()::weight, -1);
        dueOutside("full", 4, Given.full()::weight, -1);
    }

    private void weightOfNone() {
        dueInTurn("an odd number", Given.graph(3, "0-1:7 1-2:9")::weight, 7, 9, -3, -3);
        PairMatching x = Given.graph(2, "0-1:7");
        dueInTurn("all", x::weight, 7, 7, 7, 7);
        x.cut(0);
        dueInTurn("the last arc is cut", x::weight, 0, 0, -3, -3);
    }

    private void mates() {
        PairMatching full = Given.full();
        for (int way = 0; way < 4; way++) {
            int asked = way;
            dueInTurn("way " + way, node -> full.mate(asked, node), 0, 0, 1, 1, 2, 2, 3, 3, 4, 4, 5, 5, 6, 6, 7, 7);
        }
        for (int arc = 0; arc < 59; arc++) {
            full.cut(arc);
        }
        due("the last arc", full.mate(0, 6), 59);
        due("the last arc", full.mate(1, 7), 59);
        due("no arc", full.mate(0, 15), -3);
    }

    private void mateOfNoWayOrNode() {
        PairMatching x = Given.path();
        dueOutside("way", 4, way -> x.mate(way, 0), -1);
        dueOutside("node", 4, node -> x.mate(0, node), -1);
        PairMatching full = Given.full();
        dueOutside("way, full", 4, way -> full.mate(way, 15), -1);
        dueOutside("node, full", 16, node -> full.mate(3, node), -1);
        dueInside("no nodes", 4, way -> new PairMatching().mate(way, 0), -1);
    }

    private void mateOfNoPairs() {
        PairMatching odd = Given.triangle();
        dueInside("least", 3, node -> odd.mate(2, node), -3);
        dueInside("greatest", 3, node -> odd.mate(3, node), -3);
        due("no such node comes ahead", odd.mate(2, 3), -1);
    }

    private void mateOfLeftNode() {
        PairMatching x = Given.graph(3, "1-2:0 0-1:0");
        due("most", x.mate(0, 0), -3);
        dueInside("dearest of nothing", 3, node -> x.mate(1, node), -3);
        due("alone", Given.graph(1).mate(0, 0), -3);
    }

    private void sortsAndShapes() {
        sentence("9: A NODE's sort", this::nodeSorts);
        sentence("9: -1", this::sortOfNoNode);
        sentence("10: The PIECE in which a NODE is", this::nodePieces);
        sentence("10: -1", this::pieceOfNoNode);
        sentence("10: -3 it is of sort 1", this::pieceOfSortOne);
        sentence("11: 0 how many NODES are of sort 1", this::howManyOfSortOne);
        sentence("11: 1 how many PIECES have an odd number of NODES", this::oddPieces);
        sentence("11: 2 how many NODES the greatest PAIRS do not COVER", this::leftNodes);
        sentence("11: 3 whether the NODES can be parted in two", this::partedInTwo);
        sentence("11: 4 connected parts", this::connectedParts);
        sentence("11: -1 another what", this::noSuchWhat);
        sentence("12: How many different PAIRS have a size (0 or more)", this::countSizes);
        sentence("12: above 8 there are none", this::countAboveEight);
        sentence("12: -2 it is below 0", this::countBelowZero);
    }

    private void nodeSorts() {
        due("one node", Given.graph(1).sort(0), 0);
        dueInTurn("two nodes", Given.graph(2, "0-1:1")::sort, 2, 2, -1);
        dueInTurn("three nodes", Given.graph(3, "0-1:1 1-2:1")::sort, 0, 1, 0, -1);
        dueInside("full", 16, Given.full()::sort, 2);
        dueInside("no arcs", 16, Given.graph(16)::sort, 0);
    }

    private void sortOfNoNode() {
        dueOutside("empty", 0, new PairMatching()::sort, -1);
        dueOutside("ordinary", 4, Given.path()::sort, -1);
        dueOutside("full", 16, Given.full()::sort, -1);
    }

    private void nodePieces() {
        due("one node", Given.graph(1).piece(0), 0);
        dueInTurn("full", Given.full()::piece, 0, 0, 1, 1, 2, 2, 3, 3, 4, 4, 5, 5, 6, 6, 7, 7);
        due("the last of all", Given.graph(16).piece(15), 15);
    }

    private void pieceOfNoNode() {
        dueOutside("empty", 0, new PairMatching()::piece, -1);
        dueOutside("ordinary", 4, Given.path()::piece, -1);
        dueOutside("full", 16, Given.full()::piece, -1);
    }

    private void pieceOfSortOne() {
        dueInTurn("the first", Given.graph(3, "0-1:1 0-2:1")::piece, -3, 0, 1);
        dueInTurn("the last", Given.graph(3, "2-1:1 0-2:1")::piece, 0, 1, -3);
        PairMatching star = Given.graph(16);
        for (int node = 0; node < 15; node++) {
            star.arc(node, 15, 1);
        }
        due("the last of all", star.piece(15), -3);
        due("the one before it", star.piece(14), 14);
    }

    private void howManyOfSortOne() {
        due("empty", new PairMatching().shape(0), 0);
        due("none", Given.full().shape(0), 0);
        due("one", Given.graph(3, "0-1:1 0-2:1").shape(0), 1);
        PairMatching most = Given.graph(16);
        for (int left = 7; left < 16; left++) {
            for (int node = 0; node < 6; node++) {
                most.arc(left, (left + node) % 7, 1);
            }
        }
        due("seven that nine are joined with", most.shape(0), 7);
        due("nine that are left alone", most.shape(1), 9);
        due("two of them are not covered", most.shape(2), 2);
    }

    private void oddPieces() {
        due("empty", new PairMatching().shape(1), 0);
        due("one node", Given.graph(1).shape(1), 1);
        due("even ones", Given.full().shape(1), 0);
        due("each for itself", Given.graph(16).shape(1), 16);
        due("a ring", Given.triangle().shape(1), 1);
        PairMatching x = Given.graph(6, "0-1:1 1-2:1 2-0:1 3-4:1");
        due("a ring, an even one, and one alone", x.shape(1), 2);
        x.arc(4, 5, 1);
        due("the even one is a path of three now: two ends and a ring", x.shape(1), 3);
        x.cut(4);
        due("as before", x.shape(1), 2);
        x.arc(5, 0, 1);
        due("all are even now", x.shape(1), 0);
    }

    private void leftNodes() {
        due("empty", new PairMatching().shape(2), 0);
        due("one node", Given.graph(1).shape(2), 1);
        due("all covered", Given.full().shape(2), 0);
        due("none covered", Given.graph(16).shape(2), 16);
        due("weights do not count", Given.graph(4, "0-1:0 1-2:1000 2-3:0").shape(2), 0);
        due("a star", Given.graph(4, "0-1:1 0-2:1 0-3:1").shape(2), 2);
    }

    private void partedInTwo() {
        due("empty", new PairMatching().shape(3), 1);
        due("one node", Given.graph(1).shape(3), 1);
        due("no arcs", Given.graph(16).shape(3), 1);
        due("several arcs", Given.full().shape(3), 1);
        due("three in a ring", Given.triangle().shape(3), 0);
        due("four in a ring", Given.square().shape(3), 1);
        due("three in a ring, one of sort 1", Given.graph(5, "0-1:1 1-2:1 2-0:1 0-3:1 0-4:1").shape(3), 0);
        PairMatching x = Given.graph(16);
        for (int node = 0; node < 15; node++) {
            x.arc(node, node + 1, 1);
        }
        due("sixteen in a row", x.shape(3), 1);
        due("an arc more", x.arc(15, 0, 1), 15);
        due("sixteen in a ring", x.shape(3), 1);
        x.arc(15, 13, 1);
        due("the last three in a ring", x.shape(3), 0);
        x.cut(16);
        x.arc(14, 0, 1);
        due("fifteen in a ring", x.shape(3), 0);
    }

    private void connectedParts() {
        due("empty", new PairMatching().shape(4), 0);
        due("one node", Given.graph(1).shape(4), 1);
        due("no arcs", Given.graph(16).shape(4), 16);
        due("pairs", Given.full().shape(4), 8);
        PairMatching star = Given.graph(16);
        for (int node = 0; node < 15; node++) {
            star.arc(node, 15, 1);
            due("one part less with each", star.shape(4), 15 - node);
        }
        star.cut(7);
        due("one more after a cut", star.shape(4), 2);
        PairMatching tree = Given.graph(7, "0-1:1 0-2:1 1-3:1 1-4:1 2-5:1 2-6:1");
        due("a tree", tree.shape(4), 1);
        tree.cut(1);
        due("two trees", tree.shape(4), 2);
    }

    private void noSuchWhat() {
        dueOutside("empty", 5, new PairMatching()::shape, -1);
        dueOutside("ordinary", 5, Given.path()::shape, -1);
        dueOutside("full", 5, Given.full()::shape, -1);
    }

    private void countSizes() {
        dueInTurn("empty", new PairMatching()::count, 1, 0);
        dueInTurn("no arcs", Given.graph(16)::count, 1, 0);
        dueInTurn("one arc", Given.graph(2, "0-1:0")::count, 1, 1, 0);
        dueInTurn("several arcs", Given.graph(2, "0-1:0 0-1:0 1-0:0")::count, 1, 3, 0);
        PairMatching full = Given.full();
        due("size 0", full.count(0), 1);
        due("size 1", full.count(1), 60);
        due("size 8", full.count(8), 8L * 8 * 8 * 8 * 7 * 7 * 7 * 7);
        PairMatching cut = Given.graph(4, "0-1:0 0-2:0 0-3:0 2-3:0");
        dueInTurn("four arcs", cut::count, 1, 4, 1, 0);
        cut.cut(0);
        dueInTurn("three arcs", cut::count, 1, 3, 0);
        PairMatching fifteen = Given.graph(15);
        for (int node = 0; node < 14; node += 2) {
            fifteen.arc(node, node + 1, 1);
        }
        dueInTurn("seven arcs apart", fifteen::count, 1, 7, 21, 35, 35, 21, 7, 1, 0);
    }

    private void countAboveEight() {
        for (int size : new int[] {9, 10, 16, 17, 32, 64, 65, 256, 1 << 30, MAX - 1, MAX}) {
            due("full: count(" + size + ")", Given.full().count(size), 0);
            due("empty: count(" + size + ")", new PairMatching().count(size), 0);
        }
    }

    private void countBelowZero() {
        for (int size : new int[] {-1, -2, -8, -9, -64, MIN, MIN + 1}) {
            due("full: count(" + size + ")", Given.full().count(size), -2);
            due("empty: count(" + size + ")", new PairMatching().count(size), -2);
        }
    }

    private void coversAndHolds() {
        sentence("13: The size of the COVER", this::coverSizes);
        sentence("13: -3 a NODE has no ARC", this::nodeWithoutArc);
        sentence("14: ARC i of the COVER, from 0, by numbers", this::coverArcs);
        sentence("14: -3", this::coverArcOfNone);
        sentence("14: -1 no such place", this::coverArcOfNoPlace);
        sentence("15: The size of the HOLD", this::holdSizes);
        sentence("16: NODE i of the HOLD, from 0, by numbers", this::holdNodes);
        sentence("16: -1", this::holdNodeOfNoPlace);
    }

    private void coverSizes() {
        due("empty", new PairMatching().cover(), 0);
        due("one arc", Given.graph(2, "0-1:0").cover(), 1);
        due("full", Given.full().cover(), 8);
        due("an odd number", Given.triangle().cover(), 2);
        due("a star", Given.graph(4, "3-0:1 3-1:1 3-2:1").cover(), 3);
    }

    private void nodeWithoutArc() {
        due("one node", Given.graph(1).cover(), -3);
        due("sixteen nodes", Given.graph(16).cover(), -3);
        PairMatching x = Given.graph(3, "0-1:1 0-1:1");
        due("the last node", x.cover(), -3);
        x.arc(2, 1, 1);
        due("no node any more", x.cover(), 2);
        x.cut(0);
        due("it has another one", x.cover(), 2);
        x.cut(1);
        due("the first node", x.cover(), -3);
    }

    private void coverArcs() {
        PairMatching x = Given.graph(6, "4-5:1 0-2:1 3-4:1 0-1:1 3-5:1");
        due("size", x.cover(), 4);
        dueInTurn("by numbers", x::coverArc, 0, 1, 2, 3, -1);
        dueInTurn("full", Given.full()::coverArc, 0, 1, 2, 3, 4, 5, 6, 7, -1);
        PairMatching late = Given.graph(2);
        Given.useUpArcs(late, 59);
        late.arc(0, 1, 1);
        dueInTurn("the last arc", late::coverArc, 59, -1);
    }

    private void coverArcOfNone() {
        dueOutside("no such place either", 0, Given.graph(1)::coverArc, -3);
        dueInTurn("a node alone", Given.graph(3, "0-1:1")::coverArc, -3, -3, -3);
    }

    private void coverArcOfNoPlace() {
        dueOutside("empty", 0, new PairMatching()::coverArc, -1);
        dueOutside("one arc", 1, Given.graph(2, "0-1:1")::coverArc, -1);
        dueOutside("two arcs", 2, Given.path()::coverArc, -1);
        dueOutside("full", 8, Given.full()::coverArc, -1);
    }

    private void holdSizes() {
        due("empty", new PairMatching().hold(), 0);
        due("no arcs", Given.graph(16).hold(), 0);
        due("one arc", Given.graph(2, "0-1:0").hold(), 1);
        due("several arcs", Given.graph(2, "0-1:0 0-1:0").hold(), 1);
        due("full", Given.full().hold(), 8);
        PairMatching x = Given.graph(2, "0-1:1");
        due("one arc", x.hold(), 1);
        x.cut(0);
        due("cut", x.hold(), 0);
    }

    private void holdNodes() {
        dueInTurn("full", Given.full()::holdNode, 0, 2, 4, 6, 8, 10, 12, 14, -1);
        dueInTurn("a star at the last node", Given.graph(16, "15-3:1 15-0:1")::holdNode, 15, -1);
        dueInTurn("by numbers", Given.graph(6, "5-0:1 5-1:1 3-0:1 3-2:1 4-3:1")::holdNode, 3, 5, -1);
    }

    private void holdNodeOfNoPlace() {
        dueOutside("empty", 0, new PairMatching()::holdNode, -1);
        dueOutside("no arcs", 0, Given.graph(16)::holdNode, -1);
        dueOutside("two nodes", 2, Given.path()::holdNode, -1);
        dueOutside("full", 8, Given.full()::holdNode, -1);
    }

    private void joins() {
        sentence("17: The weight of the JOIN of the NODES whose bits (2^node) are in a mask", this::joinMasks);
        sentence("17: -2 the mask has others", this::joinOfOthers);
        sentence("17: -3 there is none", this::joinOfNone);
        sentence("18: ARC i of the latest JOIN that was told", this::joinArcs);
        sentence("18: since the GRAPH was changed (a NODE, an ARC, a cut)", this::joinOfChangedGraph);
        sentence("18: -3 there is none", this::joinArcOfNone);
        sentence("18: -1 no such place", this::joinArcOfNoPlace);
    }

    private void joinMasks() {
        due("no nodes", new PairMatching().join(0), 0);
        due("none of sixteen", Given.full().join(0), 0);
        due("all of sixteen", Given.full().join(0xFFFF), 8000);
        due("the last two", Given.full().join(0xC000), 1000);
        due("an arc of no weight", Given.graph(2, "0-1:0").join(3), 0);
        PairMatching x = Given.graph(16, "0-15:7");
        due("the first and the last", x.join(0x8001), 7);
    }

    private void joinOfOthers() {
        int[] masks = {-1, MIN, MIN + 1, MAX, 1 << 16, 1 << 17, 1 << 30, 0x10003, 0xFFFF0000};
        for (int nodes = 0; nodes <= 16; nodes++) {
            PairMatching x = Given.graph(nodes);
            for (int mask : masks) {
                due(nodes + " nodes: join(" + mask + ")", x.join(mask), -2);
            }
            due(nodes + " nodes: the next one", x.join(1 << nodes), -2);
            due(nodes + " nodes: the next one with all", x.join((2 << nodes) - 1), -2);
            due(nodes + " nodes: none", x.join(0), 0);
        }
    }

    private void joinOfNone() {
        due("one node", Given.graph(1).join(1), -3);
        due("two nodes without an arc", Given.graph(2).join(3), -3);
        due("one of two", Given.graph(2, "0-1:1").join(2), -3);
        due("an odd number", Given.path().join(0b0111), -3);
        due("15 of 16", Given.full().join(0x7FFF), -3);
        due("one of each of two parts", Given.full().join(0b0101), -3);
        due("three and one", Given.graph(6, "0-1:1 1-2:1 3-4:1 4-5:1").join(0b001111), -3);
        PairMatching x = Given.graph(2, "0-1:1");
        x.cut(0);
        due("the arc is cut", x.join(3), -3);
    }

    private void joinArcs() {
        PairMatching x = Given.graph(4, "2-3:1 1-2:1 0-1:1");
        x.join(0b1001);
        dueInTurn("by numbers", x::joinArc, 0, 1, 2, -1);
        x.join(0b0011);
        dueInTurn("the latest", x::joinArc, 2, -1);
        x.join(0);
        dueInTurn("the latest has none", x::joinArc, -1);
        PairMatching full = Given.full();
        full.join(0xFFFF);
        dueInTurn("full", full::joinArc, 0, 1, 2, 3, 4, 5, 6, 7, -1);
    }

    private void joinOfChangedGraph() {
        PairMatching x = Given.graph(3, "0-1:1 1-2:1");
        x.join(3);
        due("told", x.joinArc(0), 0);
        x.rank(0, 1, 5);
        due("a rank is none of these", x.joinArc(0), 0);
        askOthers(x);
        due("nor is what was asked", x.joinArc(0), 0);
        x.node();
        due("a node", x.joinArc(0), -3);
        x.join(3);
        due("told again", x.joinArc(0), 0);
        x.arc(2, 3, 1);
        due("an arc", x.joinArc(0), -3);
        x.join(3);
        due("told again", x.joinArc(0), 0);
        x.cut(2);
        due("a cut", x.joinArc(0), -3);
        x.join(3);
        due("told again", x.joinArc(0), 0);
        x.clear();
        due("all are gone", x.joinArc(0), -3);
        x.join(0);
        due("told again", x.joinArc(0), -1);
    }

    private void joinArcOfNone() {
        dueOutside("empty, no such place either", 0, new PairMatching()::joinArc, -3);
        dueOutside("none told, no such place either", 0, Given.path()::joinArc, -3);
        PairMatching x = Given.path();
        x.join(1);
        x.join(1 << 4);
        dueInTurn("none of those told was there", x::joinArc, -3, -3);
    }

    private void joinArcOfNoPlace() {
        PairMatching x = Given.path();
        x.join(0);
        dueOutside("no arcs", 0, x::joinArc, -1);
        x.join(0b0011);
        dueOutside("one arc", 1, x::joinArc, -1);
        PairMatching full = Given.full();
        full.join(0xFFFF);
        dueOutside("eight arcs", 8, full::joinArc, -1);
    }

    private void ranks() {
        sentence("19: A NODE ranks another one: what it was (-1 it was not)", this::rankReplaced);
        sentence("19: (-1: no more)", this::rankNoMore);
        sentence("19: -1 no such NODE, either", this::rankOfNoNode);
        sentence("19: -2 it is itself", this::rankOfItself);
        sentence("19: -2 the rank is not -1 .. 99", this::rankBounds);
        sentence("20: How many STABLE PAIRS there are", this::stableSets);
        sentence("20: -4 there are more than 12 NODES", this::stableWithoutRoom);
        sentence("21: The ARC of the FIRST STABLE PAIRS that COVERS a NODE", this::stableMates);
        sentence("21: -1", this::stableMateOfNoNode);
        sentence("21: -4 there are more than 12 NODES", this::stableMateWithoutRoom);
        sentence("21: -3 there are none", this::stableMateOfNone);
        sentence("21: -3 it is not COVERED", this::stableMateOfLeftNode);
    }

    private void rankReplaced() {
        PairMatching x = Given.graph(16);
        for (int node = 0; node < 16; node++) {
            for (int other = node + 1; other < 16; other++) {
                due("it was not", x.rank(node, other, node + other), -1);
                due("the other way round it was not", x.rank(other, node, node * other % 100), -1);
            }
        }
        for (int node = 0; node < 16; node++) {
            for (int other = node + 1; other < 16; other++) {
                due("it was", x.rank(node, other, 0), node + other);
            }
        }
        due("it was 0", x.rank(1, 0, 7), 0);
        due("it was 10, from 14 times 15", x.rank(15, 14, 0), 10);
        due("it was 0", x.rank(15, 14, 99), 0);
        due("it was 99", x.rank(15, 14, 99), 99);
        due("the other way round", x.rank(14, 15, 1), 0);
    }

    private void rankNoMore() {
        PairMatching x = Given.graph(2, "0-1:1");
        due("it was not", x.rank(0, 1, -1), -1);
        due("it was not", x.rank(0, 1, 7), -1);
        due("no more", x.rank(0, 1, -1), 7);
        due("it was not", x.rank(0, 1, -1), -1);
        x.rank(1, 0, 7);
        due("nobody is open", x.stableMate(0), -3);
        due("it was not", x.rank(0, 1, 0), -1);
        due("open again", x.stableMate(0), 0);
    }

    private void rankOfNoNode() {
        for (int nodes : new int[] {0, 1, 2, 15, 16}) {
            PairMatching x = Given.graph(nodes);
            dueOutside("no node", nodes, node -> x.rank(node, 0, 1), -1);
            dueOutside("no other", nodes, other -> x.rank(0, other, 1), -1);
            dueOutside("neither", nodes, node -> x.rank(node, node, 1), -1);
        }
    }

    private void rankOfItself() {
        PairMatching x = Given.graph(16);
        dueInside("rank 0", 16, node -> x.rank(node, node, 0), -2);
        dueInside("no more", 16, node -> x.rank(node, node, -1), -2);
    }

    private void rankBounds() {
        PairMatching x = Given.graph(2);
        x.rank(0, 1, 50);
        for (int rank : new int[] {-2, -3, -100, 100, 101, 127, 128, 255, 256, MIN, MIN + 1, MAX, MAX - 1}) {
            due("rank " + rank, x.rank(0, 1, rank), -2);
        }
        due("none was taken", x.rank(0, 1, 99), 50);
        due("99 was taken", x.rank(0, 1, 0), 99);
        due("0 was taken", x.rank(0, 1, -1), 0);
        due("-1 was taken", x.rank(0, 1, 5), -1);
    }

    private void stableSets() {
        due("empty", new PairMatching().stable(), 1);
        due("one node", Given.graph(1).stable(), 1);
        due("none", Given.unstable().stable(), 0);
        due("two", Given.twiceStable().stable(), 2);
        PairMatching x = Given.graph(12);
        for (int node = 0; node < 12; node += 2) {
            x.arc(node, node + 1, 1);
            Given.rankBoth(x, node, node + 1, 99, 0);
        }
        due("six pairs, one set", x.stable(), 1);
    }

    private void stableWithoutRoom() {
        PairMatching x = Given.graph(11);
        due("11 nodes", x.stable(), 1);
        for (int node = 11; node < 16; node++) {
            x.node();
            due("nodes up to " + node, x.stable(), node == 11 ? 1 : -4);
        }
        x.clear();
        due("after clear", x.stable(), 1);
        Given.addNodes(x, 12);
        due("12 nodes again", x.stable(), 1);
    }

    private void stableMates() {
        PairMatching x = Given.graph(12);
        Given.useUpArcs(x, 59);
        x.arc(0, 11, 1);
        Given.rankBoth(x, 0, 11, 0, 99);
        due("the first node, the last arc", x.stableMate(0), 59);
        due("the last node, the last arc", x.stableMate(11), 59);
        dueInTurn("the first node, the first arc", Given.twiceStable()::stableMate, 0, 0, 2, 2, -1);
    }

    private void stableMateOfNoNode() {
        dueOutside("empty", 0, new PairMatching()::stableMate, -1);
        dueOutside("ordinary", 4, Given.twiceStable()::stableMate, -1);
        dueOutside("none", 3, Given.unstable()::stableMate, -1);
        dueOutside("12 nodes", 12, Given.graph(12)::stableMate, -1);
        dueOutside("13 nodes", 13, Given.graph(13)::stableMate, -1);
        dueOutside("full", 16, Given.full()::stableMate, -1);
    }

    private void stableMateWithoutRoom() {
        dueInside("12 nodes", 12, Given.graph(12)::stableMate, -3);
        dueInside("13 nodes", 13, Given.graph(13)::stableMate, -4);
        dueInside("16 nodes", 16, Given.full()::stableMate, -4);
        PairMatching x = Given.unstable();
        Given.addNodes(x, 10);
        dueInside("none either", 13, x::stableMate, -4);
    }

    private void stableMateOfNone() {
        dueInside("none", 3, Given.unstable()::stableMate, -3);
        PairMatching x = Given.unstable();
        x.node();
        x.node();
        x.arc(3, 4, 1);
        Given.rankBoth(x, 3, 4, 0, 0);
        dueInside("none, though two are content", 5, x::stableMate, -3);
    }

    private void stableMateOfLeftNode() {
        due("alone", Given.graph(1).stableMate(0), -3);
        dueInside("nobody is open", 4, Given.square()::stableMate, -3);
        PairMatching x = Given.graph(3, "0-1:1 1-2:1");
        Given.rankBoth(x, 0, 1, 0, 1);
        Given.rankBoth(x, 1, 2, 0, 0);
        dueInTurn("1 would sooner have 2", x::stableMate, -3, 1, 1);
    }
}
