import java.lang.management.ManagementFactory;
import java.util.Random;

/** Any call with any arguments in any state ends without throwing, and makes little. */
public final class AnyCallTests {
    private static final int[] EXTREMES = {Integer.MIN_VALUE, Integer.MIN_VALUE + 1, -65536, -60, -17, -16, -5, -4, -3, -2,
        -1, 12, 13, 15, 16, 17, 31, 32, 33, 59, 60, 61, 63, 64, 99, 100, 1000, 1001, 65535, 65536,
        Integer.MAX_VALUE - 1, Integer.MAX_VALUE};
    // The room has 7.3 million fields and elements; an object with all its rows takes a small part of it.
    private static final long MOST_BYTES = 600000;

    private final Checks checks = new Checks();
    private final Random random = new Random(7);

    public static void main(String[] args) {
        AnyCallTests tests = new AnyCallTests();
        for (int run = 0; run < 60; run++) {
            tests.anyCalls(run);
        }
        tests.room();
        tests.checks.end();
    }

    private int any() {
        int kind = random.nextInt(8);
        if (kind == 0) {
            return EXTREMES[random.nextInt(EXTREMES.length)];
        }
        return kind == 1 ? random.nextInt() : random.nextInt(17);
    }

    private void anyCalls(int run) {
        PairMatching x = new PairMatching();
        int nodes = run % 17;
        for (int node = 0; node < nodes; node++) {
            x.node();
        }
        for (int call = 0; call < 700; call++) {
            long answer = oneCall(x, random.nextInt(run % 3 == 0 ? 200 : 2000));
            checks.isTrue("no answer is below -4", answer >= -4);
        }
    }

    private long oneCall(PairMatching x, int kind) {
        if (kind < 1) {
            return x.clear();
        }
        switch (kind % 20) {
            case 0:
                return x.node();
            case 1:
                return x.cut(any());
            case 2:
                return x.pairs(any());
            case 3:
                return x.weight(any());
            case 4:
                return x.mate(any(), any());
            case 5:
                return x.sort(any());
            case 6:
                return x.piece(any());
            case 7:
                return x.shape(any());
            case 8:
                return x.count(any());
            case 9:
                return x.cover();
            case 10:
                return x.coverArc(any());
            case 11:
                return x.hold();
            case 12:
                return x.holdNode(any());
            case 13:
                return x.join(random.nextInt(1 << random.nextInt(18)));
            case 14:
                return x.joinArc(any());
            case 15:
                return x.stable();
            case 16:
                return x.stableMate(any());
            case 17:
                return x.rank(any(), any(), any());
            case 18:
                return x.join(any());
            default:
                return x.arc(any(), any(), any());
        }
    }

    private void room() {
        com.sun.management.ThreadMXBean threads =
                (com.sun.management.ThreadMXBean) ManagementFactory.getThreadMXBean();
        dearCalls();
        long before = threads.getCurrentThreadAllocatedBytes();
        dearCalls();
        long made = threads.getCurrentThreadAllocatedBytes() - before;
        checks.isTrue("a whole run of dear calls makes " + made + " bytes", made < MOST_BYTES);
        before = threads.getCurrentThreadAllocatedBytes();
        for (int i = 0; i < 100; i++) {
            new PairMatching().node();
        }
        made = threads.getCurrentThreadAllocatedBytes() - before;
        checks.isTrue("100 objects make " + made + " bytes", made < MOST_BYTES);
    }

    /** 16 nodes, 60 arcs, and changes with dear calls after each of them: as many rounds as 512 calls hold. */
    private static void dearCalls() {
        PairMatching x = new PairMatching();
        for (int node = 0; node < 12; node++) {
            x.node();
        }
        int calls = 12;
        for (int arc = 0; arc < 60; arc++) {
            x.arc(arc % 12, (arc % 12 + 1 + arc / 12) % 12, arc);
            x.stable();
            calls += 2;
        }
        for (int node = 12; node < 16; node++) {
            x.node();
            calls++;
        }
        for (int arc = 0; calls < 512 - 9; arc++) {
            x.cut(arc);
            x.pairs(0);
            x.weight(2);
            x.sort(0);
            x.count(8);
            x.cover();
            x.hold();
            x.join(65535);
            x.joinArc(0);
            calls += 9;
        }
    }
}
