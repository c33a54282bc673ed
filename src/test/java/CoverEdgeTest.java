/** The edges of promises 4, 5, 8 and 9: addCover, setCost, coverBit and coverCost. */
public final class CoverEdgeTest {
    private static final int OK = SyndromeEmbedder.OK;
    private static final int BAD = SyndromeEmbedder.BAD;
    private static final int FULL = SyndromeEmbedder.FULL;
    private static final int WET = SyndromeEmbedder.WET;
    private static final int NO_RESULT = SyndromeEmbedder.NO_RESULT;
    private static final int[] COSTS = {WET, 0, 1, 2, 999, 1000};
    private static final Checks CHECKS = new Checks();

    public static void main(String[] args) {
        fullWhateverTheArguments();
        addWrongBit();
        addWrongCost();
        addAppends();
        addDropsTheResult();
        tenForEveryWidth();
        addLeavesTheRest();
        setCostOutOfRange();
        setCostOnEmptyCover();
        setWrongCost();
        sameCostDropsTheResult();
        newCostDropsTheResult();
        wetAndBack();
        setCostLeavesTheRest();
        coverBitOutOfRange();
        coverBitAsFed();
        coverCostOutOfRange();
        readersChangeNothing();
        CHECKS.end();
    }

    private static SyndromeEmbedder full(int w) {
        SyndromeEmbedder x = new SyndromeEmbedder(2, w);
        for (int i = 0; i < 10; i++) {
            x.addCover(i & 1, COSTS[i % 6]);
        }
        return x;
    }

    private static void fullWhateverTheArguments() {
        CHECKS.sentence("Promise 4", "First: FULL if n == 10, whatever the arguments.");
        for (int width = 1; width <= 3; width++) {
            int w = width;
            CHECKS.changeNothing("w " + w, () -> full(w), x -> {
                for (int bit : Ints.any()) {
                    for (int cost : Ints.any()) {
                        CHECKS.due("w " + w + ": addCover(" + bit + ", " + cost + ")", x.addCover(bit, cost), FULL);
                    }
                }
            });
        }
    }

    private static void addWrongBit() {
        CHECKS.sentence("Promise 4", "Then: BAD if bit is not 0 or 1");
        for (State state : State.all()) {
            if (state.n < 10) {
                CHECKS.changeNothing(state.name, state::make, x -> {
                    for (int bit : Ints.notBits()) {
                        for (int cost : COSTS) {
                            String call = state.name + ": addCover(" + bit + ", " + cost + ")";
                            CHECKS.due(call, x.addCover(bit, cost), BAD);
                        }
                    }
                });
            }
        }
    }

    private static void addWrongCost() {
        CHECKS.sentence("Promise 4", "or if cost is neither WET nor in 0..1000.");
        for (State state : State.all()) {
            if (state.n < 10) {
                CHECKS.changeNothing(state.name, state::make, x -> {
                    for (int cost : Ints.notCosts()) {
                        CHECKS.due(state.name + ": addCover(0, " + cost + ")", x.addCover(0, cost), BAD);
                        CHECKS.due(state.name + ": addCover(1, " + cost + ")", x.addCover(1, cost), BAD);
                    }
                });
            }
        }
    }

    private static void addAppends() {
        CHECKS.sentence("Promise 4", "Otherwise the element, with bit bit and cost cost, is appended with number n "
                + "(the old count), n grows by one, the result becomes absent, and the answer is OK.");
        for (State state : State.all()) {
            for (int cost : COSTS) {
                SyndromeEmbedder x = state.make();
                int bit = cost & 1;
                if (state.n < 10) {
                    String call = state.name + ": addCover(" + bit + ", " + cost + ")";
                    CHECKS.due(call, x.addCover(bit, cost), OK);
                    CHECKS.due(call + ", coverBit(n)", x.coverBit(state.n), bit);
                    CHECKS.due(call + ", coverCost(n)", x.coverCost(state.n), cost);
                    CHECKS.due(call + ", coverBit(n + 1)", x.coverBit(state.n + 1), BAD);
                    CHECKS.due(call + ", coverCost(n + 1)", x.coverCost(state.n + 1), BAD);
                }
            }
        }
    }

    private static void checkResultAbsent(String when, SyndromeEmbedder x) {
        CHECKS.due(when + ": totalCost()", x.totalCost(), NO_RESULT);
        CHECKS.due(when + ": optimalCount()", x.optimalCount(), NO_RESULT);
        CHECKS.due(when + ": alteredBit(0)", x.alteredBit(0), NO_RESULT);
        CHECKS.due(when + ": flip(0)", x.flip(0), NO_RESULT);
        CHECKS.due(when + ": extractBit(0)", x.extractBit(0), NO_RESULT);
    }

    private static void addDropsTheResult() {
        CHECKS.sentence("Promise 4", "n grows by one, the result becomes absent, and the answer is OK.");
        for (State state : State.all()) {
            if (state.hasResult && state.n < 10) {
                for (int cost : COSTS) {
                    SyndromeEmbedder x = state.make();
                    x.addCover(0, cost);
                    checkResultAbsent(state.name + ": addCover(0, " + cost + ")", x);
                    CHECKS.due(state.name + ": embed()", x.embed(), SyndromeEmbedder.NOT_READY);
                }
            }
        }
    }

    private static void tenForEveryWidth() {
        CHECKS.sentence("Promise 4", "The limit is 10 for every w.");
        for (int h = 1; h <= 4; h++) {
            for (int w = 1; w <= 3; w++) {
                SyndromeEmbedder x = new SyndromeEmbedder(h, w);
                for (int i = 0; i < 10; i++) {
                    CHECKS.due("h " + h + ", w " + w + ": addCover " + i, x.addCover(1, 1000), OK);
                }
                CHECKS.due("h " + h + ", w " + w + ": addCover 10", x.addCover(1, 1000), FULL);
                CHECKS.due("h " + h + ", w " + w + ": coverBit(9)", x.coverBit(9), 1);
                CHECKS.due("h " + h + ", w " + w + ": coverBit(10)", x.coverBit(10), BAD);
            }
        }
    }

    private static void checkRest(String when, State state, SyndromeEmbedder x) {
        for (int i = 0; i < state.n; i++) {
            CHECKS.due(when + ": coverBit(" + i + ")", x.coverBit(i), state.coverBits()[i]);
        }
        for (int row = 0; row < state.k; row++) {
            CHECKS.due(when + ": messageBit(" + row + ")", x.messageBit(row), state.messageBits()[row]);
        }
        CHECKS.due(when + ": messageBit(k)", x.messageBit(state.k), BAD);
        SyndromeEmbedder old = state.withColumns();
        for (int column = 0; column <= 3; column++) {
            CHECKS.due(when + ": columnBits(" + column + ")", x.columnBits(column), old.columnBits(column));
        }
    }

    private static void addLeavesTheRest() {
        CHECKS.sentence("Promise 4", "Earlier elements, the message and the columns do not change.");
        for (State state : State.all()) {
            SyndromeEmbedder x = state.make();
            for (int n = state.n; n <= 10; n++) {
                x.addCover(n & 1, 77);
                checkRest(state.name + ", n " + n, state, x);
                for (int i = 0; i < state.n; i++) {
                    CHECKS.due(state.name + ": coverCost(" + i + ")", x.coverCost(i), state.coverCosts()[i]);
                }
            }
        }
    }

    private static void setCostOutOfRange() {
        CHECKS.sentence("Promise 5", "It answers BAD, and changes nothing, if index is not in 0..n-1");
        for (State state : State.all()) {
            CHECKS.changeNothing(state.name, state::make, x -> {
                for (int index : Ints.outside(0, state.n - 1)) {
                    for (int cost : COSTS) {
                        CHECKS.due(state.name + ": setCost(" + index + ", " + cost + ")", x.setCost(index, cost), BAD);
                    }
                }
            });
        }
    }

    private static void setCostOnEmptyCover() {
        CHECKS.sentence("Promise 5", "(so always when the cover is empty)");
        for (int w = 1; w <= 3; w++) {
            SyndromeEmbedder x = new SyndromeEmbedder(1, w);
            SyndromeEmbedder emptied = full(w);
            emptied.clear();
            for (int index : Ints.any()) {
                for (int cost : Ints.any()) {
                    CHECKS.due("setCost(" + index + ", " + cost + ")", x.setCost(index, cost), BAD);
                    CHECKS.due("emptied: setCost(" + index + ", " + cost + ")", emptied.setCost(index, cost), BAD);
                }
            }
        }
    }

    private static void setWrongCost() {
        CHECKS.sentence("Promise 5", "or if cost is neither WET nor in 0..1000.");
        for (State state : State.all()) {
            CHECKS.changeNothing(state.name, state::make, x -> {
                for (int index = 0; index < state.n; index++) {
                    for (int cost : Ints.notCosts()) {
                        CHECKS.due(state.name + ": setCost(" + index + ", " + cost + ")", x.setCost(index, cost), BAD);
                    }
                }
            });
        }
    }

    private static void sameCostDropsTheResult() {
        CHECKS.sentence("Promise 5", "the result becomes absent (even if the cost had this value already)");
        for (State state : State.all()) {
            for (int index = 0; index < state.n; index++) {
                SyndromeEmbedder x = state.make();
                String call = state.name + ", the same cost of " + index;
                CHECKS.due(call, x.setCost(index, x.coverCost(index)), OK);
                checkResultAbsent(call, x);
            }
        }
    }

    private static void newCostDropsTheResult() {
        CHECKS.sentence("Promise 5", "Otherwise c(index) becomes cost, the result becomes absent .., and the answer is "
                + "OK.");
        for (State state : State.all()) {
            for (int index = 0; index < state.n; index++) {
                for (int cost : COSTS) {
                    SyndromeEmbedder x = state.make();
                    String call = state.name + ": setCost(" + index + ", " + cost + ")";
                    CHECKS.due(call, x.setCost(index, cost), OK);
                    CHECKS.due(call + ", coverCost", x.coverCost(index), cost);
                    checkResultAbsent(call, x);
                }
            }
        }
    }

    private static void wetAndBack() {
        CHECKS.sentence("Promise 5", "An element may go from WET to a number and back.");
        for (int index = 0; index < 10; index++) {
            SyndromeEmbedder x = new SyndromeEmbedder(1, 1);
            for (int i = 0; i < 10; i++) {
                x.addCover(0, i == index ? WET : 0);
                x.addMessage(1);
            }
            for (int cost = 0; cost <= 1000; cost += 250) {
                CHECKS.due("wet: embed()", x.embed(), SyndromeEmbedder.NO_SOLUTION);
                CHECKS.due("setCost(" + index + ", " + cost + ")", x.setCost(index, cost), OK);
                CHECKS.due("dry: embed()", x.embed(), OK);
                CHECKS.due("dry: totalCost()", x.totalCost(), cost);
                CHECKS.due("setCost(" + index + ", WET)", x.setCost(index, WET), OK);
                CHECKS.due("coverCost(" + index + ")", x.coverCost(index), WET);
            }
        }
    }

    private static void setCostLeavesTheRest() {
        CHECKS.sentence("Promise 5", "The bit x(index), the other elements, n, the message and the columns do not "
                + "change.");
        for (State state : State.all()) {
            for (int index = 0; index < state.n; index++) {
                SyndromeEmbedder x = state.make();
                x.setCost(index, 77);
                checkRest(state.name + ", setCost " + index, state, x);
                CHECKS.due(state.name + ": coverBit(n)", x.coverBit(state.n), BAD);
                for (int i = 0; i < state.n; i++) {
                    int want = i == index ? 77 : state.coverCosts()[i];
                    CHECKS.due(state.name + ": coverCost(" + i + ")", x.coverCost(i), want);
                }
            }
        }
    }

    private static void coverBitOutOfRange() {
        CHECKS.sentence("Promise 8", "coverBit(index) answers x(index), 0 or 1, or BAD if index is not in 0..n-1 (so "
                + "always when the cover is empty).");
        for (State state : State.all()) {
            SyndromeEmbedder x = state.make();
            for (int index : Ints.outside(0, state.n - 1)) {
                CHECKS.due(state.name + ": coverBit(" + index + ")", x.coverBit(index), BAD);
            }
            for (int i = 0; i < state.n; i++) {
                CHECKS.due(state.name + ": coverBit(" + i + ")", x.coverBit(i), state.coverBits()[i]);
            }
        }
    }

    private static void coverBitAsFed() {
        CHECKS.sentence("Promise 8", "The answer is the bit as it was fed, never an altered bit; neither embed nor "
                + "flip has an effect on it.");
        for (int pattern = 0; pattern < 1024; pattern += 11) {
            SyndromeEmbedder x = new SyndromeEmbedder(1, 1);
            for (int i = 0; i < 10; i++) {
                x.addCover(pattern >> i & 1, 1);
                x.addMessage(1 - (pattern >> i & 1));
            }
            x.embed();
            checkBits("embedded", x, pattern);
            CHECKS.due("every bit is altered: totalCost()", x.totalCost(), 10);
            for (int i = 0; i < 10; i++) {
                x.flip(i);
                checkBits("flipped " + i, x, pattern);
            }
            x.embed();
            checkBits("embedded again", x, pattern);
        }
    }

    private static void checkBits(String when, SyndromeEmbedder x, int pattern) {
        for (int i = 0; i < 10; i++) {
            CHECKS.due(when + ": coverBit(" + i + ")", x.coverBit(i), pattern >> i & 1);
        }
    }

    private static void coverCostOutOfRange() {
        CHECKS.sentence("Promise 9", "coverCost(index) answers c(index), which is WET or 0..1000, or BAD if index is "
                + "not in 0..n-1 (so always when the cover is empty).");
        for (State state : State.all()) {
            SyndromeEmbedder x = state.make();
            for (int index : Ints.outside(0, state.n - 1)) {
                CHECKS.due(state.name + ": coverCost(" + index + ")", x.coverCost(index), BAD);
            }
            for (int i = 0; i < state.n; i++) {
                CHECKS.due(state.name + ": coverCost(" + i + ")", x.coverCost(i), state.coverCosts()[i]);
            }
        }
        SyndromeEmbedder x = new SyndromeEmbedder(1, 1);
        x.addCover(0, 0);
        for (int cost = -1; cost <= 1000; cost++) {
            CHECKS.due("setCost(0, " + cost + ")", x.setCost(0, cost), OK);
            CHECKS.due("coverCost(0)", x.coverCost(0), cost);
        }
    }

    private static void readersChangeNothing() {
        for (State state : State.all()) {
            CHECKS.sentence("Promise 8", "It changes nothing.");
            CHECKS.changeNothing(state.name, state::make, x -> {
                for (int index : Ints.any()) {
                    x.coverBit(index);
                }
            });
            CHECKS.sentence("Promise 9", "It changes nothing.");
            CHECKS.changeNothing(state.name, state::make, y -> {
                for (int index : Ints.any()) {
                    y.coverCost(index);
                }
            });
        }
    }
}
