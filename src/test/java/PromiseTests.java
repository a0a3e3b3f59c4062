/** One method for each promise: ordinary inputs, the edges that the document names, wrong inputs. */
public final class PromiseTests {
    private static final int[] WRONG = {-1, -2, 1000000, Integer.MAX_VALUE, Integer.MIN_VALUE};

    private final Checks checks = new Checks();

    public static void main(String[] args) {
        PromiseTests tests = new PromiseTests();
        tests.promise1();
        tests.promise2();
        tests.promise3();
        tests.promise4();
        tests.promise5();
        tests.promise6();
        tests.promise7();
        tests.promise8();
        tests.promise9();
        tests.promise10();
        tests.promise11();
        tests.promise12();
        tests.promise13();
        tests.promise14();
        tests.promise15();
        tests.promise16();
        tests.promise17();
        tests.promise18();
        tests.promise19();
        tests.promise20();
        tests.promise21();
        tests.checks.end();
    }

    private void due(String what, long got, long want) {
        checks.due(what, got, want);
    }

    private void promise1() {
        PairMatching x = new PairMatching();
        due("new: node 0", x.sort(0), -1);
        due("new: arc 0", x.cut(0), -1);
        for (int way = 0; way < 4; way++) {
            due("new: pairs", x.pairs(way), 0);
            due("new: weight", x.weight(way), 0);
        }
        due("new: clear", x.clear(), 0);
        due("new: first node", x.node(), 0);
        due("new: another object is free of it", new PairMatching().clear(), 0);
    }

    private void promise2() {
        PairMatching x = new PairMatching();
        for (int node = 0; node < 16; node++) {
            due("node", x.node(), node);
        }
        due("node without room", x.node(), -4);
        due("node without room again", x.node(), -4);
        due("refused nodes are none", x.clear(), 16);
    }

    private void promise3() {
        PairMatching x = Given.graph(3);
        due("arc", x.arc(0, 1, 0), 0);
        due("arc between the same", x.arc(1, 0, 1000), 1);
        due("arc to itself", x.arc(1, 1, 5), -2);
        due("arc of weight -1", x.arc(0, 1, -1), -2);
        due("arc of weight 1001", x.arc(0, 1, 1001), -2);
        for (int wrong : WRONG) {
            due("arc from no node", x.arc(wrong, 1, 5), -1);
            due("arc to no node", x.arc(1, wrong, 5), -1);
            due("-1 ahead of -2", x.arc(wrong, wrong, wrong), -1);
        }
        due("arc to the next node", x.arc(0, 3, 5), -1);
        due("extreme weight", x.arc(0, 1, Integer.MIN_VALUE), -2);
        due("extreme weight", x.arc(0, 1, Integer.MAX_VALUE), -2);
        for (int arc = 2; arc < 60; arc++) {
            due("arc", x.arc(arc % 3, (arc + 1) % 3, arc), arc);
        }
        due("arc without room", x.arc(0, 1, 5), -4);
        due("-2 ahead of -4", x.arc(0, 0, 5), -2);
        due("-1 ahead of -4", x.arc(0, 9, 5), -1);
        due("cut", x.cut(59), 59);
        due("arcs that were cut are counted", x.arc(0, 1, 5), -4);
    }

    private void promise4() {
        PairMatching x = Given.graph(3, "0-1:5 1-0:7 1-2:9");
        due("cut", x.cut(0), 2);
        due("cut again", x.cut(0), -1);
        due("the other arc stays", x.mate(0, 0), 1);
        due("a number does not come again", x.arc(0, 2, 1), 3);
        due("cut", x.cut(1), 2);
        due("cut changes pairs", x.mate(0, 0), -3);
        due("cut changes pairs", x.mate(0, 1), 2);
        for (int wrong : WRONG) {
            due("cut of no arc", x.cut(wrong), -1);
        }
        due("cut of the next arc", x.cut(4), -1);
        due("cut", x.cut(2), 1);
        due("cut", x.cut(3), 0);
        due("nothing is left", x.pairs(0), 0);
    }

    private void promise5() {
        PairMatching x = Given.graph(3, "0-1:5 1-2:5");
        Given.rankBoth(x, 0, 1, 1, 1);
        due("join ahead of clear", x.join(3), 5);
        due("clear", x.clear(), 3);
        due("no join after clear", x.joinArc(0), -3);
        due("clear again", x.clear(), 0);
        due("no arcs", x.cut(0), -1);
        due("nodes from 0 on", x.node(), 0);
        due("nodes from 0 on", x.node(), 1);
        due("no old arcs", x.pairs(0), 0);
        due("no old ranks", x.rank(0, 1, -1), -1);
        due("no old ranks", x.rank(1, 0, -1), -1);
        due("arcs from 0 on", x.arc(0, 1, 2), 0);
        due("pairs", x.weight(0), 2);
        PairMatching full = Given.graph(2);
        for (int arc = 0; arc < 60; arc++) {
            full.arc(0, 1, 1);
        }
        full.clear();
        full.node();
        full.node();
        due("room after clear", full.arc(0, 1, 1), 0);
    }

    private void promise6() {
        PairMatching x = Given.path();
        due("most", x.pairs(0), 2);
        due("dearest", x.pairs(1), 1);
        due("all, least", x.pairs(2), 2);
        due("all, greatest", x.pairs(3), 2);
        due("way 4", x.pairs(4), -1);
        for (int wrong : WRONG) {
            due("no way", x.pairs(wrong), -1);
        }
        x.node();
        due("most with a node alone", x.pairs(0), 2);
        due("not all", x.pairs(2), -3);
        due("not all", x.pairs(3), -3);
        PairMatching zero = Given.graph(2, "0-1:0");
        due("an arc of weight 0 adds nothing", zero.pairs(1), 0);
        due("but it is an arc", zero.pairs(0), 1);
        PairMatching equal = Given.graph(4, "0-1:2 2-3:2 1-2:4");
        due("of equal weight the fewest", equal.pairs(1), 1);
        PairMatching ring = Given.graph(5, "0-1:1 1-2:1 2-3:1 3-4:1 4-0:1");
        due("ring of five", ring.pairs(0), 2);
    }

    private void promise7() {
        PairMatching x = Given.square();
        due("the FIRST's weight", x.weight(0), 7);
        due("dearest", x.weight(1), 7);
        due("all, least", x.weight(2), 6);
        due("all, greatest", x.weight(3), 7);
        due("way 4", x.weight(4), -1);
        for (int wrong : WRONG) {
            due("no way", x.weight(wrong), -1);
        }
        x.node();
        due("not all", x.weight(2), -3);
        due("not all", x.weight(3), -3);
        PairMatching dear = new PairMatching();
        for (int node = 0; node < 16; node++) {
            dear.node();
        }
        for (int node = 0; node < 16; node += 2) {
            dear.arc(node, node + 1, 1000);
        }
        due("eight of 1000", dear.weight(2), 8000);
        due("eight of 1000", dear.weight(1), 8000);
    }

    private void promise8() {
        PairMatching x = Given.path();
        int[][] due = {{0, 0, 2, 2}, {-3, 1, 1, -3}, {0, 0, 2, 2}, {0, 0, 2, 2}};
        for (int way = 0; way < 4; way++) {
            for (int node = 0; node < 4; node++) {
                due("mate(" + way + ", " + node + ")", x.mate(way, node), due[way][node]);
            }
        }
        for (int wrong : WRONG) {
            due("no way", x.mate(wrong, 0), -1);
            due("no node", x.mate(0, wrong), -1);
        }
        due("way 4", x.mate(4, 0), -1);
        due("node 4", x.mate(0, 4), -1);
        x.node();
        due("no such pairs", x.mate(2, 0), -3);
        due("not covered", x.mate(0, 4), -3);
        due("-1 ahead of -3", x.mate(2, 5), -1);
        PairMatching first = Given.graph(4, "2-3:1 0-2:1 1-3:1 0-1:1");
        due("the FIRST has arc 0", first.mate(0, 2), 0);
        due("the FIRST has arc 0", first.mate(2, 0), 3);
        PairMatching twin = Given.graph(2, "0-1:4 1-0:2 0-1:2 0-1:4");
        due("least number", twin.mate(0, 1), 0);
        due("dearest, least number", twin.mate(1, 1), 0);
        due("cheapest, least number", twin.mate(2, 1), 1);
        due("greatest, least number", twin.mate(3, 1), 0);
    }

    private void promise9() {
        PairMatching star = Given.graph(5, "0-1:1 0-2:1 3-4:1");
        int[] sorts = {1, 0, 0, 2, 2};
        for (int node = 0; node < 5; node++) {
            due("sort(" + node + ")", star.sort(node), sorts[node]);
        }
        due("sort(5)", star.sort(5), -1);
        for (int wrong : WRONG) {
            due("no node", star.sort(wrong), -1);
        }
        PairMatching ring = Given.triangle();
        for (int node = 0; node < 3; node++) {
            due("odd ring", ring.sort(node), 0);
        }
        due("alone", Given.graph(1).sort(0), 0);
        due("an arc cut makes it alone", cutStar(star), 0);
    }

    private static int cutStar(PairMatching star) {
        star.cut(2);
        return star.sort(3);
    }

    private void promise10() {
        PairMatching x = Given.graph(7, "3-0:1 3-5:1 3-1:1 2-4:1 1-6:1 6-5:1 5-1:1");
        // Without 3 there are {0} and the ring {1, 5, 6}; {2, 4} is apart.
        int[] pieces = {0, 1, 2, -3, 2, 1, 1};
        for (int node = 0; node < 7; node++) {
            due("piece(" + node + ")", x.piece(node), pieces[node]);
        }
        x.node();
        x.arc(0, 7, 1);
        due("0 and 7 can be a pair: all are", x.pairs(2), 4);
        for (int node = 0; node < 8; node++) {
            due("all are in pairs: piece(" + node + ")", x.piece(node), node == 2 || node == 4 ? 1 : 0);
        }
        x.node();
        x.arc(0, 8, 1);
        int[] latest = {-3, 0, 1, 0, 1, 0, 0, 2, 3};
        for (int node = 0; node < 9; node++) {
            due("without 0: piece(" + node + ")", x.piece(node), latest[node]);
        }
        due("piece(9)", x.piece(9), -1);
        for (int wrong : WRONG) {
            due("no node", x.piece(wrong), -1);
        }
    }

    private void promise11() {
        PairMatching x = Given.graph(6, "0-1:1 0-2:1 0-3:1 4-5:1");
        int[] shape = {1, 3, 2, 1, 2};
        for (int what = 0; what < 5; what++) {
            due("shape(" + what + ")", x.shape(what), shape[what]);
        }
        due("shape(5)", x.shape(5), -1);
        for (int wrong : WRONG) {
            due("no what", x.shape(wrong), -1);
        }
        x.arc(1, 2, 1);
        int[] ring = {0, 0, 0, 0, 2};
        for (int what = 0; what < 5; what++) {
            due("with a ring: shape(" + what + ")", x.shape(what), ring[what]);
        }
        due("square is in two", Given.square().shape(3), 1);
        PairMatching none = new PairMatching();
        int[] empty = {0, 0, 0, 1, 0};
        for (int what = 0; what < 5; what++) {
            due("empty: shape(" + what + ")", none.shape(what), empty[what]);
        }
    }

    private void promise12() {
        PairMatching x = Given.path();
        due("count(0)", x.count(0), 1);
        due("count(1)", x.count(1), 3);
        due("count(2)", x.count(2), 1);
        due("count(3)", x.count(3), 0);
        due("count(-1)", x.count(-1), -2);
        due("count(min)", x.count(Integer.MIN_VALUE), -2);
        due("count(9)", x.count(9), 0);
        due("count(max)", x.count(Integer.MAX_VALUE), 0);
        x.arc(0, 1, 3);
        due("arcs between the same are different", x.count(1), 4);
        due("arcs between the same are different", x.count(2), 2);
        PairMatching bundles = Given.graph(16);
        for (int arc = 0; arc < 60; arc++) {
            bundles.arc(arc % 8 * 2, arc % 8 * 2 + 1, 1);
        }
        due("bundles of 8 and 7", bundles.count(8), 4096L * 2401L);
        due("bundles of 8 and 7", bundles.count(1), 60);
    }

    private void promise13() {
        due("path", Given.path().cover(), 2);
        PairMatching star = Given.graph(4, "0-1:1 0-2:1 0-3:1");
        due("star", star.cover(), 3);
        star.node();
        due("a node has no arc", star.cover(), -3);
        star.arc(4, 1, 1);
        due("star with a tail", star.cover(), 3);
        star.cut(1);
        due("a node has no arc any more", star.cover(), -3);
        due("empty", new PairMatching().cover(), 0);
    }

    private void promise14() {
        PairMatching x = Given.graph(5, "3-4:1 2-3:1 1-2:1 0-1:1 0-4:1");
        int[] arcs = {0, 1, 3, -1};
        for (int i = 0; i < arcs.length; i++) {
            due("coverArc(" + i + ")", x.coverArc(i), arcs[i]);
        }
        for (int wrong : WRONG) {
            due("no place", x.coverArc(wrong), -1);
        }
        x.node();
        due("-3 ahead of -1", x.coverArc(0), -3);
        due("-3 ahead of -1", x.coverArc(-1), -3);
        due("-3 ahead of -1", x.coverArc(99), -3);
        due("empty", new PairMatching().coverArc(0), -1);
    }

    private void promise15() {
        due("path", Given.path().hold(), 2);
        PairMatching star = Given.graph(4, "3-1:1 3-2:1 3-0:1");
        due("star", star.hold(), 1);
        star.arc(0, 1, 1);
        due("ring with a tail", star.hold(), 2);
        star.cut(3);
        due("star again", star.hold(), 1);
        due("no arcs", Given.graph(3).hold(), 0);
        due("empty", new PairMatching().hold(), 0);
    }

    private void promise16() {
        PairMatching x = Given.path();
        due("holdNode(0)", x.holdNode(0), 0);
        due("holdNode(1)", x.holdNode(1), 2);
        due("holdNode(2)", x.holdNode(2), -1);
        for (int wrong : WRONG) {
            due("no place", x.holdNode(wrong), -1);
        }
        PairMatching star = Given.graph(4, "3-1:1 3-2:1 3-0:1");
        due("star", star.holdNode(0), 3);
        due("no arcs", Given.graph(3).holdNode(0), -1);
        PairMatching pairs = Given.graph(16);
        for (int node = 0; node < 8; node++) {
            pairs.arc(15 - node, node, 1);
        }
        for (int i = 0; i < 8; i++) {
            due("least nodes", pairs.holdNode(i), i);
        }
        due("least nodes", pairs.holdNode(8), -1);
    }

    private void promise17() {
        PairMatching x = Given.square();
        due("join of none", x.join(0), 0);
        due("join of two", x.join(0b0101), 5);
        due("join of all", x.join(0b1111), 6);
        due("join of one", x.join(0b0001), -3);
        due("join of three", x.join(0b0111), -3);
        due("mask has node 4", x.join(0b10000), -2);
        due("mask has node 4", x.join(0b10001), -2);
        due("-2 ahead of -3", x.join(-1), -2);
        due("extreme mask", x.join(Integer.MIN_VALUE), -2);
        due("extreme mask", x.join(Integer.MAX_VALUE), -2);
        x.node();
        x.node();
        due("nodes that are apart", x.join(0b110000), -3);
        due("odd in both parts", x.join(0b010001), -3);
        x.arc(4, 5, 1000);
        due("in two parts", x.join(0b110011), 1003);
        due("empty", new PairMatching().join(0), 0);
    }

    private void promise18() {
        PairMatching x = Given.square();
        due("none was told", x.joinArc(0), -3);
        due("-3 ahead of -1", x.joinArc(-1), -3);
        x.join(0b0101);
        due("joinArc(0)", x.joinArc(0), 2);
        due("joinArc(1)", x.joinArc(1), 3);
        due("joinArc(2)", x.joinArc(2), -1);
        for (int wrong : WRONG) {
            due("no place", x.joinArc(wrong), -1);
        }
        x.join(0b0001);
        x.join(0b10000);
        x.arc(0, 0, 1);
        x.cut(7);
        due("refusals change nothing", x.joinArc(0), 2);
        x.rank(0, 1, 5);
        x.pairs(0);
        x.cover();
        due("a rank is no change of the graph", x.joinArc(1), 3);
        x.join(0b0011);
        due("the latest", x.joinArc(0), 0);
        x.node();
        due("a node changes the graph", x.joinArc(0), -3);
        x.join(0b0011);
        x.arc(0, 1, 1);
        due("an arc changes the graph", x.joinArc(0), -3);
        x.join(0b0011);
        due("the new arc", x.joinArc(0), 4);
        x.cut(0);
        due("a cut changes the graph", x.joinArc(0), -3);
        joinTies();
    }

    private void joinTies() {
        PairMatching zeros = Given.graph(4, "0-1:0 1-2:0 0-2:0 2-3:5 0-3:5");
        due("of equal weight", zeros.join(0b0101), 0);
        due("the fewest arcs", zeros.joinArc(0), 2);
        due("the fewest arcs", zeros.joinArc(1), -1);
        due("no arcs for no nodes", zeros.join(0), 0);
        due("no arcs for no nodes", zeros.joinArc(0), -1);
        PairMatching ties = Given.graph(4, "1-3:1 0-2:1 0-1:1 2-3:1 0-1:1");
        due("two ways round", ties.join(0b1001), 2);
        due("the FIRST", ties.joinArc(0), 0);
        due("the FIRST", ties.joinArc(1), 2);
    }

    private void promise19() {
        PairMatching x = Given.graph(3);
        due("it was not", x.rank(0, 1, 0), -1);
        due("it was 0", x.rank(0, 1, 99), 0);
        due("it was 99", x.rank(0, 1, -1), 99);
        due("it was not", x.rank(0, 1, -1), -1);
        due("rank 100", x.rank(0, 1, 100), -2);
        due("rank -2", x.rank(0, 1, -2), -2);
        due("itself", x.rank(1, 1, 5), -2);
        due("itself", x.rank(1, 1, -1), -2);
        due("refusals change nothing", x.rank(0, 1, 7), -1);
        due("the other way is another rank", x.rank(1, 0, 8), -1);
        due("it was 7", x.rank(0, 1, 7), 7);
        due("extreme rank", x.rank(0, 1, Integer.MAX_VALUE), -2);
        due("extreme rank", x.rank(0, 1, Integer.MIN_VALUE), -2);
        for (int wrong : WRONG) {
            due("no node", x.rank(wrong, 0, 5), -1);
            due("no other", x.rank(0, wrong, 5), -1);
            due("-1 ahead of -2", x.rank(wrong, wrong, 500), -1);
        }
        due("node 3", x.rank(0, 3, 5), -1);
        x.arc(0, 1, 1);
        x.cut(0);
        due("a cut leaves ranks", x.rank(1, 0, 8), 8);
    }

    private void promise20() {
        due("empty", new PairMatching().stable(), 1);
        due("nobody is open", Given.square().stable(), 1);
        PairMatching square = Given.twiceStable();
        due("two sorts of happiness", square.stable(), 2);
        square.cut(0);
        due("an arc less", square.stable(), 1);
        PairMatching ring = Given.unstable();
        due("none", ring.stable(), 0);
        Given.rankBoth(ring, 0, 1, 2, 2);
        due("with a tie", ring.stable(), 1);
        Given.rankBoth(ring, 1, 2, 2, 2);
        Given.rankBoth(ring, 2, 0, 2, 2);
        due("all the same", ring.stable(), 3);
        ring.rank(0, 1, -1);
        due("no more open", ring.stable(), 2);
        stableLimit();
    }

    private void stableLimit() {
        PairMatching x = new PairMatching();
        for (int node = 0; node < 12; node++) {
            x.node();
            due("up to 12 nodes", x.stable(), 1);
        }
        x.node();
        due("13 nodes", x.stable(), -4);
        due("13 nodes", x.stableMate(0), -4);
        due("-1 ahead of -4", x.stableMate(13), -1);
        x.clear();
        due("after clear", x.stable(), 1);
    }

    private void promise21() {
        PairMatching x = Given.square();
        x.arc(1, 0, 1);
        due("not covered", x.stableMate(0), -3);
        for (int wrong : WRONG) {
            due("no node", x.stableMate(wrong), -1);
        }
        due("node 4", x.stableMate(4), -1);
        Given.rankBoth(x, 1, 0, 5, 5);
        due("the least number between them", x.stableMate(0), 0);
        due("the least number between them", x.stableMate(1), 0);
        due("not covered", x.stableMate(2), -3);
        x.cut(0);
        due("the next arc between them", x.stableMate(0), 4);
        Given.rankBoth(x, 2, 1, 5, 4);
        due("sooner with another", x.stableMate(1), 1);
        due("left", x.stableMate(0), -3);
        PairMatching ring = Given.unstable();
        due("there are none", ring.stableMate(0), -3);
        PairMatching both = Given.twiceStable();
        due("the FIRST of two", both.stableMate(3), 2);
        due("the FIRST of two", both.stableMate(0), 0);
    }
}
