/** The sentences of the document's Terms that name a boundary, in their order. */
public final class TermTests extends Sentences {
    public static void main(String[] args) {
        TermTests tests = new TermTests();
        tests.graphs();
        tests.sets();
        tests.ways();
        tests.sorts();
        tests.coversHoldsJoins();
        tests.ranks();
        tests.end();
    }

    private void graphs() {
        sentence("An object is used for at most 512 calls", this::fiveHundredAndTwelveCalls);
        sentence("NODES 0, 1, .. (16 at most)", this::sixteenNodes);
        sentence("ARCS 0, 1, .. (60 at most", this::sixtyArcs);
        sentence("those that were cut counted", this::cutArcsCount);
        sentence("a number does not come again", this::numbersDoNotComeAgain);
        sentence("each between two other NODES", this::arcsJoinTwoNodes);
        sentence("several may join the same two", this::severalArcs);
    }

    private void fiveHundredAndTwelveCalls() {
        PairMatching ranked = Given.graph(2, "0-1:5");
        ranked.rank(1, 0, 0);
        for (int call = 5; call <= 510; call++) {
            due("call " + call, ranked.rank(0, 1, call % 100), call == 5 ? -1 : (call - 1) % 100);
        }
        due("call 511", ranked.stableMate(0), 0);
        due("call 512", ranked.rank(0, 1, -1), 10);
        PairMatching emptied = new PairMatching();
        for (int call = 0; call < 512; call += 4) {
            due("node", emptied.node(), 0);
            due("shape", emptied.shape(2), 1);
            due("stable", emptied.stable(), 1);
            due("clear", emptied.clear(), 1);
        }
    }

    private void sixteenNodes() {
        PairMatching x = new PairMatching();
        for (int node = 0; node < 16; node++) {
            due("node", x.node(), node);
        }
        for (int more = 16; more < 40; more++) {
            due("node too many", x.node(), -4);
        }
        due("how many there are", x.clear(), 16);
    }

    private void sixtyArcs() {
        PairMatching x = Given.graph(16);
        for (int arc = 0; arc < 60; arc++) {
            due("arc", x.arc(arc % 16, (arc + 1 + arc / 16) % 16, arc), arc);
        }
        for (int more = 60; more < 70; more++) {
            due("arc too many", x.arc(0, 1, 1), -4);
        }
        due("how many there are", x.count(1), 60);
    }

    private void cutArcsCount() {
        PairMatching x = Given.graph(2);
        Given.useUpArcs(x, 59);
        due("the last that has room", x.arc(0, 1, 1), 59);
        due("one too many, though 59 were cut", x.arc(0, 1, 1), -4);
        due("cut", x.cut(59), 0);
        due("one too many, though all were cut", x.arc(0, 1, 1), -4);
    }

    private void numbersDoNotComeAgain() {
        PairMatching x = Given.graph(3, "0-1:1 1-2:1");
        x.cut(1);
        due("after the last was cut", x.arc(1, 2, 1), 2);
        x.cut(0);
        due("after the first was cut", x.arc(0, 1, 1), 3);
        due("the old one is no more", x.cut(0), -1);
        due("the old one is no more", x.cut(1), -1);
        due("pairs name the new ones", x.mate(0, 1), 2);
        x.arc(0, 0, 1);
        x.arc(0, 9, 1);
        due("refused arcs use no number", x.arc(0, 1, 1), 4);
    }

    private void arcsJoinTwoNodes() {
        PairMatching x = Given.graph(16);
        dueInside("arc to itself", 16, node -> x.arc(node, node, 1), -2);
        due("none was made", x.arc(0, 15, 1), 0);
    }

    private void severalArcs() {
        PairMatching x = Given.graph(2);
        for (int arc = 0; arc < 60; arc++) {
            due("arc", x.arc(arc % 2, 1 - arc % 2, 500 + arc * 7 % 60), arc);
        }
        due("each is one of the pairs", x.count(1), 60);
        due("no two of them together", x.count(2), 0);
        due("the FIRST of all", x.mate(0, 0), 0);
        due("the dearest", x.weight(1), 559);
        due("the dearest", x.mate(1, 1), 17);
        due("the cheapest", x.mate(2, 1), 0);
        due("the join", x.join(3), 500);
        for (int arc = 0; arc < 59; arc++) {
            x.cut(arc);
            due("the two are still joined", x.pairs(2), 1);
        }
        x.cut(59);
        due("the two are joined no more", x.pairs(2), -3);
    }

    private void sets() {
        sentence("the size is how many they have, the weight the sum", this::sizesAndWeights);
        sentence("the FIRST has the least number by which it differs", this::firstByLeastNumber);
        sentence("also where the numbers are high", this::firstOfHighNumbers);
        sentence("one that has it comes ahead of one that has not", this::firstOfOtherSizes);
    }

    private void sizesAndWeights() {
        PairMatching none = Given.graph(3);
        due("size of the empty set", none.pairs(1), 0);
        due("weight of the empty set", none.weight(1), 0);
        due("weight of the empty join", none.join(0), 0);
        PairMatching full = Given.full();
        for (int way = 0; way < 4; way++) {
            due("the greatest size", full.pairs(way), 8);
            due("the greatest weight", full.weight(way), 8000);
        }
        PairMatching chain = Given.graph(16);
        for (int node = 0; node < 15; node++) {
            chain.arc(node, node + 1, 1000);
        }
        due("weight of a long join", chain.join(0x8001), 15000);
    }

    private void firstByLeastNumber() {
        PairMatching ahead = Given.graph(4, "0-1:2 2-3:2 1-2:2 3-0:2");
        PairMatching around = Given.graph(4, "0-1:2 1-2:2 3-0:2 2-3:2");
        for (int way = 0; way < 4; way++) {
            due("arcs 0 and 1, not 2 and 3", ahead.mate(way, 2), 1);
            due("arcs 0 and 3, not 1 and 2", around.mate(way, 2), 3);
        }
        due("cover 0 and 1", ahead.coverArc(1), 1);
        due("cover 0 and 3", around.coverArc(1), 3);
        due("hold 0 and 2, not 1 and 3", ahead.holdNode(0), 0);
        ahead.join(0b1111);
        due("join 0 and 1", ahead.joinArc(1), 1);
        around.join(0b1111);
        due("join 0 and 3", around.joinArc(1), 3);
        ahead.join(0b0101);
        dueInTurn("one way round 0 and 2, the other 1 and 3", ahead::joinArc, 0, 2, -1);
        around.join(0b1010);
        dueInTurn("one way round 0 and 2, the other 1 and 3", around::joinArc, 0, 2, -1);
        PairMatching late = Given.graph(4, "1-3:1 0-2:1 0-1:1 2-3:1");
        late.join(0b1001);
        dueInTurn("the way that is found later is the FIRST", late::joinArc, 0, 2, -1);
        PairMatching early = Given.graph(4, "2-3:1 0-1:1 0-2:1 1-3:1");
        early.join(0b1001);
        dueInTurn("the way that is found sooner is not", early::joinArc, 0, 2, -1);
        rankRound(ahead);
        due("stable 0 and 1", ahead.stableMate(2), 1);
        rankRound(around);
        due("stable 0 and 3", around.stableMate(2), 3);
    }

    private static void rankRound(PairMatching x) {
        for (int node = 0; node < 4; node++) {
            Given.rankBoth(x, node, (node + 1) % 4, 7, 7);
        }
    }

    private void firstOfHighNumbers() {
        for (int before : new int[] {29, 31, 56}) {
            PairMatching x = Given.graph(16);
            Given.useUpArcs(x, before);
            Given.addArcs(x, "12-13:2 14-15:2 13-14:2 15-12:2");
            due("most pairs after " + before, x.mate(0, 15), before + 1);
            due("dearest pairs after " + before, x.mate(1, 15), before + 1);
            due("the hold", x.holdNode(0), 12);
            due("the hold", x.holdNode(1), 14);
            x.join(0xF000);
            due("join after " + before, x.joinArc(0), before);
            due("join after " + before, x.joinArc(1), before + 1);
            highSquare(before);
        }
    }

    private void highSquare(int before) {
        PairMatching x = Given.graph(4);
        Given.useUpArcs(x, before);
        Given.addArcs(x, "0-1:2 2-3:2 1-2:2 3-0:2");
        due("all, cheapest after " + before, x.mate(2, 3), before + 1);
        due("all, dearest after " + before, x.mate(3, 3), before + 1);
        due("cover after " + before, x.coverArc(0), before);
        due("cover after " + before, x.coverArc(1), before + 1);
        rankRound(x);
        due("stable after " + before, x.stableMate(3), before + 1);
    }

    private void firstOfOtherSizes() {
        PairMatching small = Given.graph(4, "1-2:1 0-1:1 2-3:1");
        PairMatching large = Given.graph(4, "0-1:1 1-2:1 2-3:1");
        for (PairMatching x : new PairMatching[] {small, large}) {
            Given.rankBoth(x, 0, 1, 5, 5);
            Given.rankBoth(x, 1, 2, 5, 5);
            Given.rankBoth(x, 2, 3, 5, 5);
            due("one in the middle, or two at the ends", x.stable(), 2);
        }
        dueInTurn("arc 0 alone comes ahead of 1 and 2", small::stableMate, -3, 0, 0, -3);
        dueInTurn("arcs 0 and 2 come ahead of 1", large::stableMate, 0, 0, 2, 2);
    }

    private void ways() {
        sentence("PAIRS are a SET of ARCS of which no two have a NODE in common", this::noCommonNode);
        sentence("they are ALL if they COVER each NODE", this::allPairs);
        sentence("0 PAIRS of the greatest size", this::mostPairs);
        sentence("1 PAIRS of the greatest weight", this::dearestPairs);
        sentence("of these with the fewest ARCS", this::fewestArcs);
        sentence("2 ALL of the least weight; 3 ALL of the greatest weight", this::allByWeight);
        sentence("Each WAY's are the FIRST of these", this::firstOfEachWay);
    }

    private void noCommonNode() {
        PairMatching star = Given.graph(16);
        for (int node = 1; node < 16; node++) {
            star.arc(0, node, 10);
        }
        due("a star has no two", star.pairs(0), 1);
        due("a star has no two", star.weight(1), 10);
        due("a star has no two", star.count(2), 0);
        due("a triangle has no two", Given.triangle().count(2), 0);
    }

    private void allPairs() {
        dueInside("no nodes: the empty set", 4, way -> new PairMatching().pairs(way), 0);
        due("one node", Given.graph(1).pairs(2), -3);
        due("two nodes without an arc", Given.graph(2).pairs(3), -3);
        due("two nodes", Given.graph(2, "0-1:0").pairs(2), 1);
        due("an odd number of nodes", Given.triangle().pairs(3), -3);
        due("each odd node is one too many", Given.graph(4, "0-1:1 0-2:1 0-3:1").pairs(2), -3);
        due("15 nodes", ring(15).pairs(2), -3);
        due("16 nodes", ring(16).pairs(2), 8);
    }

    private static PairMatching ring(int nodes) {
        PairMatching x = Given.graph(nodes);
        for (int node = 0; node < nodes; node++) {
            x.arc(node, (node + 1) % nodes, 1);
        }
        return x;
    }

    private void mostPairs() {
        due("no arcs", Given.graph(16).pairs(0), 0);
        due("two, though one comes ahead", Given.graph(4, "1-2:1 0-1:1 2-3:1").pairs(0), 2);
        due("cheap ones, if there are more", Given.graph(4, "0-1:0 1-2:1000 2-3:0").pairs(0), 2);
        due("their weight", Given.graph(4, "0-1:0 1-2:1000 2-3:0").weight(0), 0);
        due("odd rings", ring(15).pairs(0), 7);
        due("even rings", ring(16).pairs(0), 8);
    }

    private void dearestPairs() {
        PairMatching x = Given.graph(4, "0-1:499 1-2:1000 2-3:500");
        due("1 below the dear one", x.pairs(1), 1);
        due("1 below the dear one", x.weight(1), 1000);
        PairMatching more = Given.graph(4, "0-1:500 1-2:1000 2-3:501");
        due("1 above the dear one", more.pairs(1), 2);
        due("1 above the dear one", more.weight(1), 1001);
        due("eight arcs, 1 above seven", sevenOrEight(8).pairs(1), 8);
        due("eight arcs, 1 above seven", sevenOrEight(8).weight(1), 57);
    }

    private void fewestArcs() {
        due("an arc of weight 0 is one too many", Given.graph(2, "0-1:0").pairs(1), 0);
        due("of weight 1 it is not", Given.graph(2, "0-1:1").pairs(1), 1);
        PairMatching equal = Given.graph(4, "0-1:500 2-3:500 1-2:1000");
        due("one of 1000, not two of 500", equal.pairs(1), 1);
        due("one of 1000, not two of 500", equal.mate(1, 1), 2);
        PairMatching seven = sevenOrEight(7);
        due("seven arcs and eight have the same weight", seven.weight(1), 56);
        due("seven, not eight", seven.pairs(1), 7);
        due("eight are the most", seven.pairs(0), 8);
    }

    /** 16 nodes in a row: eight arcs of weight 7, but for the first, and seven between them of weight 8. */
    private static PairMatching sevenOrEight(int first) {
        PairMatching x = Given.graph(16);
        x.arc(0, 1, first);
        for (int node = 1; node < 15; node++) {
            x.arc(node, node + 1, node % 2 == 0 ? 7 : 8);
        }
        return x;
    }

    private void allByWeight() {
        PairMatching x = Given.graph(4, "0-1:0 1-2:1000 2-3:1 3-0:0");
        due("least", x.weight(2), 1);
        due("greatest", x.weight(3), 1000);
        PairMatching zero = Given.graph(4, "0-1:0 2-3:0");
        due("least of nothing", zero.weight(2), 0);
        due("greatest of nothing", zero.weight(3), 0);
        due("two arcs all the same", zero.pairs(3), 2);
        PairMatching forced = Given.graph(4, "0-1:3 1-2:9 2-3:4");
        due("a dearer one that is not ALL does not count", forced.weight(3), 7);
    }

    private void firstOfEachWay() {
        PairMatching x = Given.graph(2, "0-1:5 0-1:9 0-1:2 0-1:9 0-1:2");
        dueInTurn("of equal arcs the first", way -> x.mate(way, 0), 0, 1, 2, 1);
        x.cut(0);
        x.cut(1);
        x.cut(2);
        dueInTurn("then the next", way -> x.mate(way, 0), 3, 3, 4, 3);
    }

    private void sorts() {
        sentence("0 some PAIRS of the greatest size do not COVER it", this::sortZero);
        sentence("1 others that an ARC joins with one of sort 0", this::sortOne);
        sentence("2 the rest", this::sortTwo);
        sentence("PIECES are the connected parts of the GRAPH without the NODES of sort 1", this::pieces);
        sentence("numbered from 0 on by their least NODES", this::pieceNumbers);
    }

    private void sortZero() {
        PairMatching alone = Given.graph(16);
        dueInside("without arcs", 16, alone::sort, 0);
        PairMatching odd = ring(15);
        dueInside("an odd ring", 15, odd::sort, 0);
        PairMatching path = Given.graph(3, "0-1:1000 1-2:0");
        due("it can be left, though the FIRST covers it", path.sort(0), 0);
        due("it can be left, though it is dear", path.sort(2), 0);
    }

    private void sortOne() {
        PairMatching path = Given.graph(3, "0-1:1 1-2:1");
        due("in the middle", path.sort(1), 1);
        PairMatching triangle = Given.triangle();
        due("joined with sort 0, but of sort 0 itself", triangle.sort(1), 0);
        PairMatching tail = Given.graph(4, "0-1:1 1-2:1 1-3:1");
        dueInTurn("a star", tail::sort, 0, 1, 0, 0);
        tail.cut(0);
        dueInTurn("an arc less", tail::sort, 0, 1, 0, 0);
        tail.cut(1);
        dueInTurn("no arc to sort 0", tail::sort, 0, 2, 0, 2);
    }

    private void sortTwo() {
        PairMatching even = ring(16);
        dueInside("an even ring", 16, even::sort, 2);
        PairMatching path = Given.graph(5, "0-1:1 1-2:1 1-3:1 3-4:1");
        dueInTurn("joined with sort 1 alone", path::sort, 0, 1, 0, 2, 2);
    }

    private void pieces() {
        PairMatching path = Given.graph(5, "0-1:1 1-2:1 1-3:1 3-4:1");
        dueInTurn("1 parts them", path::piece, 0, -3, 1, 2, 2);
        PairMatching none = Given.graph(16);
        dueInTurn("each for itself", none::piece, 0, 1, 2, 3, 4, 5, 6, 7, 8, 9, 10, 11, 12, 13, 14, 15);
        PairMatching whole = ring(16);
        dueInside("one piece", 16, whole::piece, 0);
    }

    private void pieceNumbers() {
        PairMatching x = Given.graph(6, "5-0:1 4-1:1 3-2:1");
        dueInTurn("by the least of each", x::piece, 0, 1, 2, 2, 1, 0);
        PairMatching star = Given.graph(4, "0-1:1 0-2:1 0-3:1");
        dueInTurn("a node of sort 1 has no number", star::piece, -3, 0, 1, 2);
    }

    private void coversHoldsJoins() {
        sentence("A COVER is a SET of ARCS, of the least size, that has one at each NODE", this::covers);
        sentence("A HOLD is a SET of NODES, of the least size, that has one of each ARC's NODES", this::holds);
        sentence("A JOIN is of the least weight", this::joinsOfLeastWeight);
        sentence("of these of the least size", this::joinsOfLeastSize);
        sentence("in which just these NODES have an odd number of ARCS", this::oddNodes);
    }

    private void covers() {
        due("no nodes: no arcs", new PairMatching().cover(), 0);
        due("an odd ring", ring(15).cover(), 8);
        due("an even ring", ring(16).cover(), 8);
        PairMatching star = Given.graph(16);
        for (int node = 0; node < 15; node++) {
            star.arc(15, node, 1000);
        }
        due("a star", star.cover(), 15);
        due("size counts, not weight", Given.graph(4, "0-1:1 1-2:1 2-3:1 0-2:1000 1-3:1000").cover(), 2);
    }

    private void holds() {
        due("no arcs: no nodes", Given.graph(16).hold(), 0);
        due("an odd ring", ring(15).hold(), 8);
        due("an even ring", ring(16).hold(), 8);
        PairMatching all = Given.graph(11);
        for (int a = 0; a < 11; a++) {
            for (int b = a + 1; b < 11; b++) {
                all.arc(a, b, 1);
            }
        }
        due("all joined with all", all.hold(), 10);
        due("the last is not in it", all.holdNode(9), 9);
        PairMatching star = Given.graph(16);
        for (int node = 0; node < 15; node++) {
            star.arc(15, node, 0);
        }
        due("a star", star.hold(), 1);
        due("a star", star.holdNode(0), 15);
    }

    private void joinsOfLeastWeight() {
        PairMatching x = Given.graph(4, "0-3:1000 0-1:333 1-2:333 2-3:333");
        due("three arcs weigh 1 less than one", x.join(0b1001), 999);
        due("three arcs weigh 1 less than one", x.joinArc(2), 3);
        PairMatching y = Given.graph(4, "0-3:1000 0-1:333 1-2:334 2-3:334");
        due("three arcs weigh 1 more than one", y.join(0b1001), 1000);
        due("three arcs weigh 1 more than one", y.joinArc(0), 0);
        due("three arcs weigh 1 more than one", y.joinArc(1), -1);
        PairMatching zeros = Given.graph(16);
        zeros.arc(0, 15, 1);
        for (int node = 0; node < 15; node++) {
            zeros.arc(node, node + 1, 0);
        }
        due("fifteen arcs of 0 weigh less than one of 1", zeros.join(0x8001), 0);
        due("fifteen arcs of 0 weigh less than one of 1", zeros.joinArc(14), 15);
    }

    private void joinsOfLeastSize() {
        PairMatching x = Given.graph(4, "0-1:1 1-2:1 2-3:1 0-3:3");
        due("one arc or three, of the same weight", x.join(0b1001), 3);
        due("one arc", x.joinArc(0), 3);
        due("one arc", x.joinArc(1), -1);
        PairMatching zeros = Given.graph(3, "0-1:0 1-2:0 2-0:0");
        due("no nodes, though a ring weighs nothing", zeros.join(0), 0);
        due("no arcs", zeros.joinArc(0), -1);
    }

    private void oddNodes() {
        PairMatching x = Given.graph(4, "0-1:1 0-2:1 0-3:1");
        due("a node with three arcs", x.join(0b1111), 3);
        due("nodes with one arc, one with two", x.join(0b0110), 2);
        due("not one node alone", x.join(0b0001), -3);
        due("not three", x.join(0b1110), -3);
        due("none at all", x.join(0), 0);
    }

    private void ranks() {
        sentence("by a number from 0 to 99", this::rankBounds);
        sentence("(the less, the sooner)", this::lessIsSooner);
        sentence("OPEN, if an ARC joins them and each ranks the other one", this::openNodes);
        sentence("by the ARC of the least number between them", this::leastArcBetween);
        sentence("no two that are OPEN, of which each is not COVERED", this::bothLeft);
        sentence("or ranks the other one by less than the one with which it is", this::byLess);
        sentence("STABLE: the FIRST is meant", this::firstStable);
    }

    private void rankBounds() {
        PairMatching x = Given.graph(2, "0-1:1");
        due("0", x.rank(0, 1, 0), -1);
        due("99", x.rank(1, 0, 99), -1);
        due("both count", x.stableMate(0), 0);
        due("100", x.rank(0, 1, 100), -2);
        due("-2", x.rank(0, 1, -2), -2);
    }

    private void lessIsSooner() {
        PairMatching x = Given.graph(3, "0-1:1 0-2:1");
        Given.rankBoth(x, 0, 1, 99, 0);
        Given.rankBoth(x, 0, 2, 98, 99);
        dueInTurn("98 comes sooner than 99", x::stableMate, 1, -3, 1);
        due("only that", x.stable(), 1);
        x.rank(0, 1, 0);
        dueInTurn("0 comes sooner than 98", x::stableMate, 0, 0, -3);
    }

    private void openNodes() {
        PairMatching x = Given.graph(2);
        Given.rankBoth(x, 0, 1, 0, 0);
        due("no arc", x.stableMate(0), -3);
        x.arc(0, 1, 5);
        due("open", x.stableMate(0), 0);
        x.rank(0, 1, -1);
        due("0 does not rank 1", x.stableMate(0), -3);
        x.rank(0, 1, 3);
        x.rank(1, 0, -1);
        due("1 does not rank 0", x.stableMate(0), -3);
        x.rank(1, 0, 99);
        due("open again", x.stableMate(1), 0);
        x.cut(0);
        due("the arc is cut", x.stableMate(1), -3);
        due("no two are open: none in pairs", x.stable(), 1);
    }

    private void leastArcBetween() {
        PairMatching x = Given.graph(2, "0-1:9 1-0:0 0-1:0");
        Given.rankBoth(x, 0, 1, 1, 1);
        due("one set, not three", x.stable(), 1);
        dueInTurn("the least number", x::stableMate, 0, 0);
        x.cut(0);
        dueInTurn("the least that is left", x::stableMate, 1, 1);
        x.cut(1);
        dueInTurn("the last", x::stableMate, 2, 2);
        due("one set", x.stable(), 1);
    }

    private void bothLeft() {
        PairMatching x = Given.graph(4, "0-1:1 2-3:1");
        Given.rankBoth(x, 0, 1, 9, 9);
        Given.rankBoth(x, 2, 3, 9, 9);
        due("neither pair is left out", x.stable(), 1);
        dueInTurn("neither pair is left out", x::stableMate, 0, 0, 1, 1);
    }

    private void byLess() {
        PairMatching x = Given.graph(3, "0-1:1 1-2:1");
        Given.rankBoth(x, 0, 1, 5, 5);
        Given.rankBoth(x, 1, 2, 5, 5);
        due("as much is not less: both are stable", x.stable(), 2);
        x.rank(1, 2, 4);
        due("1 less", x.stable(), 1);
        due("1 goes to 2", x.stableMate(1), 1);
        x.rank(1, 2, 6);
        due("1 more", x.stable(), 1);
        due("1 stays with 0", x.stableMate(1), 0);
        due("nobody is content", Given.unstable().stable(), 0);
        severalByLess();
        PairMatching one = Given.graph(4, "0-1:1 1-2:1 2-3:1");
        Given.rankBoth(one, 0, 1, 1, 2);
        Given.rankBoth(one, 1, 2, 1, 2);
        Given.rankBoth(one, 2, 3, 1, 1);
        due("1 would go to 2, but 2 stays with 3", one.stable(), 1);
        dueInTurn("1 would go to 2, but 2 stays with 3", one::stableMate, 0, 0, 2, 2);
    }

    /** 0 would sooner have 1 or 2 than 3; 2 would sooner have 4. */
    private void severalByLess() {
        PairMatching x = Given.graph(5, "0-3:1 0-2:1 0-1:1 2-4:1");
        Given.rankBoth(x, 0, 1, 1, 0);
        Given.rankBoth(x, 0, 2, 2, 9);
        Given.rankBoth(x, 0, 3, 3, 0);
        Given.rankBoth(x, 2, 4, 0, 0);
        due("0 does not stay with 3, for 1", x.stable(), 1);
        dueInTurn("0 does not stay with 3, for 1", x::stableMate, 2, 2, 3, -3, 3);
        x.rank(0, 1, 3);
        due("1 comes as late as 3 now: either", x.stable(), 2);
        x.rank(2, 4, 9);
        x.rank(2, 0, 0);
        due("2 would sooner have 0 now", x.stable(), 1);
        dueInTurn("2 would sooner have 0 now", x::stableMate, 1, -3, 1, -3, -3);
    }

    private void firstStable() {
        PairMatching x = Given.twiceStable();
        due("two sets", x.stable(), 2);
        dueInTurn("the one with arc 0", x::stableMate, 0, 0, 2, 2);
    }
}
