import java.util.ArrayList;
import java.util.Arrays;
import java.util.LinkedHashMap;
import java.util.List;
import java.util.Map;
import java.util.function.Supplier;
import java.util.function.ToLongFunction;

/** REFUSALS, and calls that only ask, change nothing; of several REFUSALS the first that fits is answered. */
public final class RefusalTests extends Sentences {
    /** Good or wrong, as it comes, as a node, arc, way, place, what, size, weight or rank. */
    private static final int[] ARGUMENTS = {Integer.MIN_VALUE, -2, -1, 0, 1, 3, 4, 5, 12, 13, 15, 16, 17, 31, 32, 33, 59, 60,
        61, 63, 64, 100, 1001, 65536, Integer.MAX_VALUE};
    private static final int[] MASKS = {-1, 1 << 31, 1 << 16, 1 << 4, 0b10011, 0b0001, 0b0111, 0x7FFF};

    /** So few that one object has no more than its 512 calls. */
    private static final int AT_ONCE = 50;

    private record Call(String name, ToLongFunction<PairMatching> answer) {
    }

    private final Map<String, Supplier<PairMatching>> states = new LinkedHashMap<>();
    private final List<Call> questions = new ArrayList<>();
    private final List<Call> changes = new ArrayList<>();
    private final List<Call> joins = new ArrayList<>();

    public static void main(String[] args) {
        RefusalTests tests = new RefusalTests();
        tests.addStates();
        tests.addQuestions();
        tests.addChanges();
        tests.changeNothing();
        tests.firstThatFits();
        tests.end();
    }

    private void addStates() {
        states.put("new", PairMatching::new);
        states.put("one node", () -> Given.graph(1));
        states.put("path", Given::path);
        states.put("path with a join", () -> joined(Given.path(), 0b1001));
        states.put("path with a join of none", () -> joined(Given.path(), 0));
        states.put("two stable sets", () -> joined(Given.twiceStable(), 0b0101));
        states.put("none stable", () -> joined(Given.unstable(), 0b011));
        states.put("full", () -> joined(Given.full(), 0xFFFF));
        states.put("full of nodes", () -> joined(Given.graph(16, "0-15:9 15-7:1 7-0:8"), 0x8001));
        states.put("full of arcs that are cut", RefusalTests::cutArcs);
        states.put("13 nodes with ranks", RefusalTests::thirteenNodes);
        states.put("cleared", RefusalTests::cleared);
    }

    private static PairMatching joined(PairMatching x, int mask) {
        x.join(mask);
        return x;
    }

    private static PairMatching cutArcs() {
        PairMatching x = Given.graph(3);
        Given.useUpArcs(x, 60);
        return joined(x, 0);
    }

    private static PairMatching thirteenNodes() {
        PairMatching x = Given.unstable();
        Given.addNodes(x, 10);
        x.arc(11, 12, 5);
        Given.rankBoth(x, 11, 12, 0, 99);
        return joined(x, 0x1800);
    }

    private static PairMatching cleared() {
        PairMatching x = joined(Given.twiceStable(), 0b0101);
        snapshot(x);
        x.clear();
        return joined(x, 0);
    }

    private void addQuestions() {
        for (int i : ARGUMENTS) {
            questions.add(new Call("pairs(" + i + ")", x -> x.pairs(i)));
            questions.add(new Call("weight(" + i + ")", x -> x.weight(i)));
            questions.add(new Call("mate(" + i + ", 0)", x -> x.mate(i, 0)));
            questions.add(new Call("mate(2, " + i + ")", x -> x.mate(2, i)));
            questions.add(new Call("sort(" + i + ")", x -> x.sort(i)));
            questions.add(new Call("piece(" + i + ")", x -> x.piece(i)));
            questions.add(new Call("shape(" + i + ")", x -> x.shape(i)));
            questions.add(new Call("count(" + i + ")", x -> x.count(i)));
            questions.add(new Call("coverArc(" + i + ")", x -> x.coverArc(i)));
            questions.add(new Call("holdNode(" + i + ")", x -> x.holdNode(i)));
            questions.add(new Call("joinArc(" + i + ")", x -> x.joinArc(i)));
            questions.add(new Call("stableMate(" + i + ")", x -> x.stableMate(i)));
        }
        questions.add(new Call("cover()", x -> x.cover()));
        questions.add(new Call("hold()", x -> x.hold()));
        questions.add(new Call("stable()", x -> x.stable()));
    }

    private void addChanges() {
        changes.add(new Call("node()", PairMatching::node));
        for (int i : ARGUMENTS) {
            changes.add(new Call("arc(" + i + ", 0, 1)", x -> x.arc(i, 0, 1)));
            changes.add(new Call("arc(0, " + i + ", 1)", x -> x.arc(0, i, 1)));
            changes.add(new Call("arc(0, 1, " + i + ")", x -> x.arc(0, 1, i)));
            changes.add(new Call("cut(" + i + ")", x -> x.cut(i)));
            if (i < -1 || i > 99) {
                changes.add(new Call("rank(0, 1, " + i + ")", x -> x.rank(0, 1, i)));
            }
            if (i < 0 || i > 15) {
                changes.add(new Call("rank(" + i + ", 0, 7)", x -> x.rank(i, 0, 7)));
                changes.add(new Call("rank(0, " + i + ", 7)", x -> x.rank(0, i, 7)));
            }
            changes.add(new Call("rank(" + i + ", " + i + ", 7)", x -> x.rank(i, i, 7)));
        }
        for (int mask : MASKS) {
            joins.add(new Call("join(" + mask + ")", x -> x.join(mask)));
        }
    }

    private void changeNothing() {
        sentence("REFUSALS change nothing: node, arc, cut, rank", () -> refusedOf(changes));
        sentence("REFUSALS change nothing: join leaves the latest JOIN", () -> refusedOf(joins));
        sentence("calls that only ask change nothing", this::allQuestions);
        sentence("REFUSALS change nothing: also after all was asked", this::refusedAfterQuestions);
    }

    private void refusedOf(List<Call> calls) {
        for (String state : states.keySet()) {
            long[] before = snapshot(states.get(state).get());
            for (Call call : calls) {
                PairMatching x = states.get(state).get();
                if (call.answer.applyAsLong(x) < 0) {
                    compare(state + ", " + call.name, snapshot(x), before);
                }
            }
        }
    }

    private void allQuestions() {
        for (String state : states.keySet()) {
            long[] before = snapshot(states.get(state).get());
            for (Call call : questions) {
                PairMatching x = states.get(state).get();
                long first = call.answer.applyAsLong(x);
                due(state + ", " + call.name + " again", call.answer.applyAsLong(x), first);
                compare(state + ", " + call.name, snapshot(x), before);
            }
        }
    }

    private void refusedAfterQuestions() {
        for (String state : states.keySet()) {
            for (int from = 0; from < changes.size(); from += AT_ONCE) {
                refusedAtOnce(state, changes.subList(from, Math.min(from + AT_ONCE, changes.size())));
            }
        }
    }

    private void refusedAtOnce(String state, List<Call> calls) {
        PairMatching x = states.get(state).get();
        long[] before = answers(x);
        for (Call call : calls) {
            if (isRefused(state, call)) {
                call.answer.applyAsLong(x);
            }
        }
        compare(state + ", from " + calls.get(0).name + " on", answers(x), before);
    }

    private boolean isRefused(String state, Call call) {
        return call.answer.applyAsLong(states.get(state).get()) < 0;
    }

    private void compare(String name, long[] got, long[] want) {
        due(name + ": answers that are other ones", Arrays.equals(got, want) ? 0 : 1, 0);
    }

    /** All that can be asked without a change. */
    private static long[] answers(PairMatching x) {
        List<Long> all = new ArrayList<>();
        for (int i = 0; i < 16; i++) {
            all.add((long) x.joinArc(i));
            all.add((long) x.sort(i));
            all.add((long) x.piece(i));
            all.add((long) x.coverArc(i));
            all.add((long) x.holdNode(i));
            all.add((long) x.stableMate(i));
        }
        for (int way = 0; way < 4; way++) {
            all.add((long) x.pairs(way));
            all.add((long) x.weight(way));
            for (int node = 0; node < 16; node += 3) {
                all.add((long) x.mate(way, node));
            }
        }
        for (int i = 0; i < 9; i++) {
            all.add((long) x.shape(i));
            all.add(x.count(i));
        }
        all.add((long) x.cover());
        all.add((long) x.hold());
        all.add((long) x.stable());
        return all.stream().mapToLong(Long::longValue).toArray();
    }

    /** All that can be asked, also by calls that change: those come last. */
    private static long[] snapshot(PairMatching x) {
        List<Long> all = new ArrayList<>();
        Arrays.stream(answers(x)).forEach(all::add);
        for (int node = 0; node < 13; node += 2) {
            for (int other = 0; other < 13; other++) {
                all.add((long) x.rank(node, other, -1));
            }
        }
        all.add((long) x.join(3));
        all.add((long) x.node());
        all.add((long) x.arc(0, 1, 77));
        all.add((long) x.cut(0));
        all.add((long) x.cut(59));
        all.add((long) x.clear());
        return all.stream().mapToLong(Long::longValue).toArray();
    }

    private void firstThatFits() {
        sentence("the first that fits: arc -1, -2, -4", this::firstOfArc);
        sentence("the first that fits: mate -1, -3", this::firstOfMate);
        sentence("the first that fits: coverArc -3, -1", this::firstOfCoverArc);
        sentence("the first that fits: join -2, -3", this::firstOfJoin);
        sentence("the first that fits: joinArc -3, -1", this::firstOfJoinArc);
        sentence("the first that fits: rank -1, -2", this::firstOfRank);
        sentence("the first that fits: stableMate -1, -4, -3", this::firstOfStableMate);
    }

    private void firstOfArc() {
        PairMatching full = Given.full();
        due("no node, the same, weight, no room", full.arc(16, 16, 1001), -1);
        due("no node, weight, no room", full.arc(0, -1, -1), -1);
        due("no node, no room", full.arc(16, 0, 1), -1);
        due("the same, weight, no room", full.arc(3, 3, -1), -2);
        due("the same, no room", full.arc(15, 15, 0), -2);
        due("weight, no room", full.arc(0, 1, 1001), -2);
        due("no room", full.arc(0, 1, 1000), -4);
        PairMatching small = Given.graph(2);
        due("no node, weight", small.arc(0, 2, 1001), -1);
        due("no node, the same", small.arc(2, 2, 1), -1);
    }

    private void firstOfMate() {
        PairMatching odd = Given.triangle();
        due("no way, no node", odd.mate(4, 3), -1);
        due("no way, no pairs", odd.mate(-1, 0), -1);
        due("no node, no pairs", odd.mate(2, 3), -1);
        due("no node, no pairs", odd.mate(3, -1), -1);
        due("no pairs", odd.mate(3, 2), -3);
    }

    private void firstOfCoverArc() {
        PairMatching alone = Given.graph(3, "0-1:1");
        dueOutside("there is none, no such place", 0, alone::coverArc, -3);
    }

    private void firstOfJoin() {
        PairMatching x = Given.path();
        due("node 4 and nothing else", x.join(0b10000), -2);
        due("node 4, and no join of the others", x.join(0b10001), -2);
        due("node 4, and a join of the others", x.join(0b10011), -2);
        due("no join", x.join(0b0001), -3);
    }

    private void firstOfJoinArc() {
        dueOutside("there is none, no such place", 0, Given.path()::joinArc, -3);
        PairMatching changed = joined(Given.path(), 0b0011);
        changed.cut(2);
        dueOutside("there is none any more, no such place", 0, changed::joinArc, -3);
    }

    private void firstOfRank() {
        PairMatching x = Given.graph(2);
        due("no node, itself, rank", x.rank(2, 2, 100), -1);
        due("no node, rank", x.rank(-1, 0, -2), -1);
        due("no other, rank", x.rank(0, 2, 100), -1);
        due("itself, rank", x.rank(1, 1, 100), -2);
        due("rank", x.rank(0, 1, 100), -2);
    }

    private void firstOfStableMate() {
        PairMatching x = thirteenNodes();
        due("no node, no room, none", x.stableMate(13), -1);
        due("no room, none", x.stableMate(0), -4);
        due("no room, not covered", x.stableMate(5), -4);
        due("no node, none", Given.unstable().stableMate(3), -1);
        due("none", Given.unstable().stableMate(2), -3);
    }
}
