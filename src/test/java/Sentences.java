import java.util.function.IntToLongFunction;

/** Tests that are told by the document's own sentences: each sentence has a test of its own. */
abstract class Sentences {
    private final Checks checks = new Checks();
    private String words = "";

    void sentence(String said, Runnable test) {
        words = said;
        int before = checks.done();
        test.run();
        checks.isTrue("\"" + words + "\" has a test", checks.done() > before);
    }

    void due(String call, long got, long want) {
        checks.due("\"" + words + "\": " + call, got, want);
    }

    /** What a call answers to 0, 1, 2, .. */
    void dueInTurn(String call, IntToLongFunction answer, long... want) {
        for (int i = 0; i < want.length; i++) {
            due(call + " of " + i, answer.applyAsLong(i), want[i]);
        }
    }

    /** What a call answers to each of 0 .. amount - 1. */
    void dueInside(String call, int amount, IntToLongFunction answer, long want) {
        for (int i = 0; i < amount; i++) {
            due(call + " of " + i, answer.applyAsLong(i), want);
        }
    }

    /** What a call answers to numbers below 0, and to amount and numbers above it. */
    void dueOutside(String call, int amount, IntToLongFunction answer, long want) {
        for (int wrong : Given.outside(amount)) {
            due(call + " of " + wrong, answer.applyAsLong(wrong), want);
        }
    }

    void end() {
        checks.end();
    }
}
