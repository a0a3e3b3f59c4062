import java.util.Random;

/** Runs of calls on small graphs, each answer held against the document's definitions in SlowPairs. */
public final class DefinitionTests {
    private static final int RUNS = 400;
    private static final int MOST_ARCS = 10;

    private final Checks checks = new Checks();
    private final Random random = new Random(20261115);
    private PairMatching x;
    private SlowPairs slow;
    private int run;
    private int calls;

    public static void main(String[] args) {
        DefinitionTests tests = new DefinitionTests();
        for (int run = 1; run <= RUNS; run++) {
            tests.oneRun(run);
        }
        tests.checks.end();
    }

    private void oneRun(int number) {
        run = number;
        calls = 0;
        x = new PairMatching();
        slow = new SlowPairs();
        int nodes = random.nextInt(8);
        int dearest = random.nextInt(3) == 0 ? 1 : random.nextInt(12);
        int ranks = 1 + random.nextInt(4);
        for (int node = 0; node < nodes; node++) {
            due("node()", x.node(), slow.node());
        }
        for (int step = 0; step < 5 + random.nextInt(30); step++) {
            change(dearest, ranks);
            if (random.nextInt(4) == 0) {
                askOne();
            }
        }
        askAll();
        if (random.nextInt(8) == 0) {
            due("clear()", x.clear(), slow.clear());
            due("node()", x.node(), slow.node());
            due("node()", x.node(), slow.node());
            due("arc(1, 0, 5)", x.arc(1, 0, 5), slow.arc(1, 0, 5));
        } else {
            change(dearest, ranks);
        }
        askAll();
        checks.isTrue("run " + run + " has no more than 512 calls", calls <= 512);
    }

    private void change(int dearest, int ranks) {
        int a = random.nextInt(9) - 1;
        int b = random.nextInt(9) - 1;
        int kind = random.nextInt(12);
        if (kind < 7) {
            int weight = random.nextInt(20) == 0 ? random.nextInt(1200) - 100 : random.nextInt(dearest + 1);
            if (slow.livingArcs() < MOST_ARCS) {
                due("arc(" + a + ", " + b + ", " + weight + ")", x.arc(a, b, weight), slow.arc(a, b, weight));
            }
        } else if (kind < 8) {
            due("cut(" + a + ")", x.cut(a), slow.cut(a));
        } else {
            int rank = random.nextInt(30) == 0 ? 101 - random.nextInt(105) : random.nextInt(ranks);
            due("rank(" + a + ", " + b + ", " + rank + ")", x.rank(a, b, rank), slow.rank(a, b, rank));
            due("rank(" + b + ", " + a + ", " + rank + ")", x.rank(b, a, rank), slow.rank(b, a, rank));
        }
    }

    private void askOne() {
        int i = random.nextInt(9) - 1;
        switch (random.nextInt(8)) {
            case 0:
                due("pairs(" + i + ")", x.pairs(i), slow.pairs(i));
                break;
            case 1:
                due("sort(" + i + ")", x.sort(i), slow.sort(i));
                break;
            case 2:
                due("count(" + i + ")", x.count(i), slow.count(i));
                break;
            case 3:
                due("coverArc(" + i + ")", x.coverArc(i), slow.coverArc(i));
                break;
            case 4:
                due("holdNode(" + i + ")", x.holdNode(i), slow.holdNode(i));
                break;
            case 5:
                askJoin(random.nextInt(128));
                break;
            case 6:
                due("joinArc(" + i + ")", x.joinArc(i), slow.joinArc(i));
                break;
            default:
                due("stableMate(" + i + ")", x.stableMate(i), slow.stableMate(i));
                break;
        }
    }

    private void askAll() {
        for (int i = -1; i < 9; i++) {
            due("joinArc(" + i + ") of old", x.joinArc(i), slow.joinArc(i));
            due("pairs(" + i + ")", x.pairs(i), slow.pairs(i));
            due("weight(" + i + ")", x.weight(i), slow.weight(i));
            for (int node = -1; node < 9 && i < 5; node++) {
                due("mate(" + i + ", " + node + ")", x.mate(i, node), slow.mate(i, node));
            }
            due("sort(" + i + ")", x.sort(i), slow.sort(i));
            due("piece(" + i + ")", x.piece(i), slow.piece(i));
            due("shape(" + i + ")", x.shape(i), slow.shape(i));
            due("count(" + i + ")", x.count(i), slow.count(i));
            due("coverArc(" + i + ")", x.coverArc(i), slow.coverArc(i));
            due("holdNode(" + i + ")", x.holdNode(i), slow.holdNode(i));
            due("stableMate(" + i + ")", x.stableMate(i), slow.stableMate(i));
        }
        due("cover()", x.cover(), slow.cover());
        due("hold()", x.hold(), slow.hold());
        due("stable()", x.stable(), slow.stable());
        for (int times = 0; times < 3; times++) {
            askJoin(random.nextInt(256));
        }
    }

    private void askJoin(int mask) {
        due("join(" + mask + ")", x.join(mask), slow.join(mask));
        for (int i = -1; i < 5; i++) {
            due("joinArc(" + i + ")", x.joinArc(i), slow.joinArc(i));
        }
    }

    private void due(String call, long got, long want) {
        calls++;
        checks.due("run " + run + ": " + call, got, want);
    }
}
