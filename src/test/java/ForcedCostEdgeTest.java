/** The edges of promise 17: forcedCost. */
public final class ForcedCostEdgeTest {
    private static final int OK = SyndromeEmbedder.OK;
    private static final int BAD = SyndromeEmbedder.BAD;
    private static final int WET = SyndromeEmbedder.WET;
    private static final int NOT_READY = SyndromeEmbedder.NOT_READY;
    private static final int NO_SOLUTION = SyndromeEmbedder.NO_SOLUTION;
    private static final int NO_RESULT = SyndromeEmbedder.NO_RESULT;
    private static final Checks CHECKS = new Checks();

    public static void main(String[] args) {
        notReadyWhateverTheArguments();
        indexOutOfRange();
        wrongBit();
        badBeforeNoSolution();
        noSuchSolution();
        wetAndTheOtherBit();
        zeroOrMore();
        leastAmongAll();
        resultNeitherUsedNorChanged();
        flipsHaveNoEffect();
        changesNothing();
        changesNothingWithoutSolution();
        CHECKS.end();
    }

    private static void notReadyWhateverTheArguments() {
        CHECKS.sentence("Promise 17", "First: NOT_READY if the object is not ready, whatever the arguments.");
        for (State state : State.all()) {
            if (!state.isReady()) {
                SyndromeEmbedder x = state.make();
                for (int index : Ints.any()) {
                    for (int bit : Ints.any()) {
                        String call = state.name + ": forcedCost(" + index + ", " + bit + ")";
                        CHECKS.due(call, x.forcedCost(index, bit), NOT_READY);
                    }
                }
            }
        }
    }

    private static void indexOutOfRange() {
        CHECKS.sentence("Promise 17", "Then: BAD if index is not in 0..n-1");
        for (State state : State.all()) {
            if (state.isReady()) {
                SyndromeEmbedder x = state.make();
                for (int index : Ints.outside(0, state.n - 1)) {
                    CHECKS.due(state.name + ": forcedCost(" + index + ", 0)", x.forcedCost(index, 0), BAD);
                    CHECKS.due(state.name + ": forcedCost(" + index + ", 1)", x.forcedCost(index, 1), BAD);
                    CHECKS.due(state.name + ": forcedCost(" + index + ", 2)", x.forcedCost(index, 2), BAD);
                }
            }
        }
    }

    private static void wrongBit() {
        CHECKS.sentence("Promise 17", "or bit is not 0 or 1.");
        for (State state : State.all()) {
            if (state.isReady()) {
                SyndromeEmbedder x = state.make();
                for (int bit : Ints.notBits()) {
                    for (int index = 0; index < state.n; index++) {
                        String call = state.name + ": forcedCost(" + index + ", " + bit + ")";
                        CHECKS.due(call, x.forcedCost(index, bit), BAD);
                    }
                }
            }
        }
    }

    private static SyndromeEmbedder unsolvable() {
        SyndromeEmbedder x = new SyndromeEmbedder(2, 2);
        x.addCover(0, WET);
        x.addCover(1, WET);
        x.addMessage(0);
        return x;
    }

    private static void badBeforeNoSolution() {
        CHECKS.sentence("Promise 17", "Then: NO_SOLUTION if there is no such solution.");
        SyndromeEmbedder x = unsolvable();
        for (int index : Ints.outside(0, 1)) {
            CHECKS.due("forcedCost(" + index + ", 0)", x.forcedCost(index, 0), BAD);
        }
        for (int bit : Ints.notBits()) {
            CHECKS.due("forcedCost(0, " + bit + ")", x.forcedCost(0, bit), BAD);
            CHECKS.due("forcedCost(1, " + bit + ")", x.forcedCost(1, bit), BAD);
        }
        for (int index = 0; index < 2; index++) {
            CHECKS.due("forcedCost(" + index + ", 0)", x.forcedCost(index, 0), NO_SOLUTION);
            CHECKS.due("forcedCost(" + index + ", 1)", x.forcedCost(index, 1), NO_SOLUTION);
        }
    }

    private static void noSuchSolution() {
        CHECKS.sentence("Promise 17", "NO_SOLUTION if there is no such solution.");
        for (int pattern = 0; pattern < 1024; pattern += 3) {
            // Element i alone gives row i, so it can be nothing but m(i), though every element is dry.
            SyndromeEmbedder x = new SyndromeEmbedder(1, 1);
            for (int i = 0; i < 10; i++) {
                x.addCover(i & 1, i);
                x.addMessage(pattern >> i & 1);
            }
            for (int i = 0; i < 10; i++) {
                String call = "message " + pattern + ": forcedCost(" + i + ", not m)";
                CHECKS.due(call, x.forcedCost(i, 1 - (pattern >> i & 1)), NO_SOLUTION);
                CHECKS.holds("message " + pattern + ", m", x.forcedCost(i, pattern >> i & 1) >= 0);
            }
        }
    }

    private static void wetAndTheOtherBit() {
        CHECKS.sentence("Promise 17", "This includes every case in which c(index) is WET and bit is not x(index).");
        for (int wet = 0; wet < 10; wet++) {
            for (int bit = 0; bit <= 1; bit++) {
                SyndromeEmbedder x = new SyndromeEmbedder(1, 2);
                for (int i = 0; i < 10; i++) {
                    x.addCover(i == wet ? bit : 0, i == wet ? WET : 3);
                }
                for (int row = 0; row < 5; row++) {
                    x.addMessage(row == wet / 2 ? bit : 0);
                }
                String when = "wet " + wet + ", bit " + bit;
                CHECKS.due(when + ": the other bit", x.forcedCost(wet, 1 - bit), NO_SOLUTION);
                CHECKS.due(when + ": its own bit", x.forcedCost(wet, bit), 0);
                x.embed();
                x.flip(wet);
                CHECKS.due(when + ", flipped: the other bit", x.forcedCost(wet, 1 - bit), NO_SOLUTION);
                CHECKS.due(when + ", flipped: its own bit", x.forcedCost(wet, bit), 0);
                x.setCost(wet, 4);
                CHECKS.due(when + ", dry: the other bit", x.forcedCost(wet, 1 - bit), 7);
            }
        }
        SyndromeEmbedder none = unsolvable();
        CHECKS.due("no solution, wet: the other bit", none.forcedCost(0, 1), NO_SOLUTION);
        CHECKS.due("no solution, wet: its own bit", none.forcedCost(0, 0), NO_SOLUTION);
    }

    private static void zeroOrMore() {
        CHECKS.sentence("Promise 17", "Otherwise the least cost, 0 or more.");
        SyndromeEmbedder x = new SyndromeEmbedder(1, 2);
        x.addCover(1, 0);
        x.addCover(0, 0);
        x.addMessage(1);
        for (int i = 0; i < 2; i++) {
            CHECKS.due("free: forcedCost(" + i + ", 0)", x.forcedCost(i, 0), 0);
            CHECKS.due("free: forcedCost(" + i + ", 1)", x.forcedCost(i, 1), 0);
        }
        for (int cost = 0; cost <= 1000; cost += 100) {
            x.setCost(0, cost);
            x.setCost(1, 1000);
            CHECKS.due("cost " + cost + ": forcedCost(0, 0)", x.forcedCost(0, 0), cost + 1000);
            CHECKS.due("cost " + cost + ": forcedCost(0, 1)", x.forcedCost(0, 1), 0);
            CHECKS.due("cost " + cost + ": forcedCost(1, 1)", x.forcedCost(1, 1), cost + 1000);
        }
    }

    private static void leastAmongAll() {
        CHECKS.sentence("Promise 17", "forcedCost(index, bit) answers the least cost among all solutions v with "
                + "v(index) = bit.");
        SyndromeEmbedder x = new SyndromeEmbedder(1, 3);
        int[] costs = {10, 20, 40, 7, 5, 3, 1, 1, 1};
        for (int cost : costs) {
            x.addCover(0, cost);
        }
        x.addMessage(1);
        x.addMessage(0);
        x.addMessage(0);
        // Block 0 needs one change (10 at least), the others none; a forced change takes a second one along.
        int[] keep = {20, 10, 10, 10, 10, 10, 10, 10, 10};
        int[] change = {10, 20, 40, 20, 18, 18, 12, 12, 12};
        for (int i = 0; i < 9; i++) {
            CHECKS.due("forcedCost(" + i + ", 0)", x.forcedCost(i, 0), keep[i]);
            CHECKS.due("forcedCost(" + i + ", 1)", x.forcedCost(i, 1), change[i]);
        }
    }

    private static void resultNeitherUsedNorChanged() {
        CHECKS.sentence("Promise 17", "The result need not be present; it is neither used nor changed.");
        for (State state : State.all()) {
            if (state.hasResult) {
                SyndromeEmbedder with = state.make();
                SyndromeEmbedder without = state.make();
                without.setCost(0, without.coverCost(0));
                CHECKS.due(state.name + ": totalCost() without", without.totalCost(), NO_RESULT);
                int cost = with.totalCost();
                for (int i = 0; i < state.n; i++) {
                    for (int bit = 0; bit <= 1; bit++) {
                        String call = state.name + ": forcedCost(" + i + ", " + bit + ")";
                        CHECKS.due(call, without.forcedCost(i, bit), with.forcedCost(i, bit));
                        CHECKS.due(call + ", totalCost() with", with.totalCost(), cost);
                        CHECKS.due(call + ", totalCost() without", without.totalCost(), NO_RESULT);
                    }
                    // The best solution is among those that have its own bit there.
                    int own = with.alteredBit(i);
                    CHECKS.due(state.name + ": the altered bit", with.forcedCost(i, own), cost);
                }
            }
        }
    }

    private static void flipsHaveNoEffect() {
        CHECKS.sentence("Promise 17", "Flips have no effect on the answer.");
        for (State state : State.all()) {
            if (state.hasResult) {
                SyndromeEmbedder old = state.make();
                SyndromeEmbedder x = state.make();
                for (int flipped = 0; flipped < state.n; flipped++) {
                    x.flip(flipped);
                    for (int i = 0; i < state.n; i++) {
                        String when = state.name + ", flipped " + flipped + ": forcedCost(" + i;
                        CHECKS.due(when + ", 0)", x.forcedCost(i, 0), old.forcedCost(i, 0));
                        CHECKS.due(when + ", 1)", x.forcedCost(i, 1), old.forcedCost(i, 1));
                    }
                }
            }
        }
    }

    private static void changesNothing() {
        CHECKS.sentence("Promise 17", "The call changes nothing");
        for (State state : State.all()) {
            SyndromeEmbedder x = state.make();
            for (int i = -1; i <= 10; i++) {
                for (int bit = -1; bit <= 2; bit++) {
                    x.forcedCost(i, bit);
                    String when = state.name + ": forcedCost(" + i + ", " + bit + ")";
                    CHECKS.same(when, Transcript.readers(x), Transcript.readers(state.make()));
                }
            }
            CHECKS.changeNothing(state.name, state::make, ForcedCostEdgeTest::forceAll);
        }
    }

    private static void forceAll(SyndromeEmbedder x) {
        for (int i = -1; i <= 10; i++) {
            for (int bit = -1; bit <= 2; bit++) {
                x.forcedCost(i, bit);
            }
        }
    }

    private static void changesNothingWithoutSolution() {
        CHECKS.sentence("Promise 17", "The call changes nothing, also when it answers NO_SOLUTION.");
        int refused = 0;
        for (State state : State.all()) {
            for (int number = 0; number < 2 * state.n; number++) {
                int index = number / 2;
                int bit = number % 2;
                if (state.make().forcedCost(index, bit) == NO_SOLUTION) {
                    refused += state.hasResult ? 1 : 0;
                    String when = state.name + ": forcedCost(" + index + ", " + bit + ")";
                    CHECKS.changeNothing(when, state::make, x -> x.forcedCost(index, bit));
                }
            }
        }
        CHECKS.holds("some answered NO_SOLUTION beside a result", refused > 0);
        SyndromeEmbedder x = unsolvable();
        x.forcedCost(0, 0);
        x.setCost(1, 2);
        CHECKS.due("forcedCost(1, 1)", x.forcedCost(1, 1), NO_SOLUTION);
        CHECKS.due("embed()", x.embed(), OK);
        CHECKS.due("forcedCost(1, 1) beside the result", x.forcedCost(1, 1), NO_SOLUTION);
        CHECKS.due("totalCost()", x.totalCost(), 2);
        CHECKS.due("optimalCount()", x.optimalCount(), 1);
        CHECKS.due("extractBit(0)", x.extractBit(0), 0);
    }
}
