import java.util.ArrayList;
import java.util.List;
import java.util.function.ToIntFunction;

/** The edges of promises 11, 12 and 13: embed, totalCost and optimalCount. */
public final class EmbedEdgeTest {
    private static final int OK = SyndromeEmbedder.OK;
    private static final int WET = SyndromeEmbedder.WET;
    private static final int NOT_READY = SyndromeEmbedder.NOT_READY;
    private static final int NO_SOLUTION = SyndromeEmbedder.NO_SOLUTION;
    private static final int NO_RESULT = SyndromeEmbedder.NO_RESULT;
    private static final Checks CHECKS = new Checks();

    public static void main(String[] args) {
        notReadyChangesNothing();
        noSolutionByColumns();
        noSolutionByWet();
        oldResultDoesNotShowAfterNoSolution();
        bothVectorsAreTheBest();
        onlySolutionCounts();
        freeChangesAreCountedApart();
        flipsAreUndone();
        earlierResultIsReplaced();
        inputsStay();
        documentsExample();
        tieByChangeNumber();
        tieOfMoreChanges();
        checkNumber("Promise 12", "totalCost() answers the least cost in the result, or NO_RESULT if the result is "
                + "absent.", 0, SyndromeEmbedder::totalCost);
        checkNumber("Promise 13", "optimalCount() answers the optimal count in the result (at least 1), or NO_RESULT "
                + "if the result is absent.", 1, SyndromeEmbedder::optimalCount);
        CHECKS.end();
    }

    private static void checkResultAbsent(String when, SyndromeEmbedder x) {
        CHECKS.due(when + ": totalCost()", x.totalCost(), NO_RESULT);
        CHECKS.due(when + ": optimalCount()", x.optimalCount(), NO_RESULT);
        for (int i = 0; i < 10; i++) {
            CHECKS.due(when + ": alteredBit(" + i + ")", x.alteredBit(i), NO_RESULT);
            CHECKS.due(when + ": flip(" + i + ")", x.flip(i), NO_RESULT);
            CHECKS.due(when + ": extractBit(" + i + ")", x.extractBit(i), NO_RESULT);
        }
    }

    private static void feed(SyndromeEmbedder x, int[] bits, int[] costs, int... message) {
        for (int i = 0; i < bits.length; i++) {
            x.addCover(bits[i], costs[i]);
        }
        for (int bit : message) {
            x.addMessage(bit);
        }
    }

    private static void notReadyChangesNothing() {
        CHECKS.sentence("Promise 11", "NOT_READY, and nothing changes, if the object is not ready.");
        for (State state : State.all()) {
            if (!state.isReady()) {
                CHECKS.changeNothing(state.name, state::make, x -> {
                    CHECKS.due(state.name + ": embed()", x.embed(), NOT_READY);
                });
            }
        }
    }

    private static void noSolutionByColumns() {
        CHECKS.sentence("Promise 11", "If there is no solution, the answer is NO_SOLUTION and the result is absent "
                + "afterwards.");
        for (int w = 1; w <= 3; w++) {
            for (int k = 1; k <= 10 / w; k++) {
                SyndromeEmbedder x = new SyndromeEmbedder(4, w);
                for (int column = 0; column < w; column++) {
                    // Bit 0 is 0, so nothing reaches row 0.
                    x.loadColumn(column, 14);
                }
                feed(x, new int[w * k], new int[w * k], 1);
                for (int row = 1; row < k; row++) {
                    x.addMessage(0);
                }
                CHECKS.due("w " + w + ", k " + k + ": embed()", x.embed(), NO_SOLUTION);
                checkResultAbsent("w " + w + ", k " + k, x);
                CHECKS.due("w " + w + ", k " + k + ": embed() again", x.embed(), NO_SOLUTION);
                checkResultAbsent("w " + w + ", k " + k + " again", x);
            }
        }
    }

    private static void noSolutionByWet() {
        CHECKS.sentence("Promise 11", "If there is no solution, the answer is NO_SOLUTION");
        for (int w = 1; w <= 3; w++) {
            for (int k = 1; k <= 10 / w; k++) {
                SyndromeEmbedder x = new SyndromeEmbedder(2, w);
                for (int i = 0; i < w * k; i++) {
                    x.addCover(0, i / w == k - 1 ? WET : 0);
                }
                for (int row = 0; row < k; row++) {
                    x.addMessage(row == k - 1 ? 1 : 0);
                }
                CHECKS.due("w " + w + ", k " + k + ": embed()", x.embed(), NO_SOLUTION);
                checkResultAbsent("w " + w + ", k " + k, x);
                x.setCost(w * k - 1, 1000);
                CHECKS.due("w " + w + ", k " + k + ", one dry: embed()", x.embed(), OK);
                CHECKS.due("w " + w + ", k " + k + ", one dry: totalCost()", x.totalCost(), 1000);
            }
        }
    }

    private static void oldResultDoesNotShowAfterNoSolution() {
        CHECKS.sentence("Promise 11", "and the result is absent afterwards.");
        SyndromeEmbedder x = new SyndromeEmbedder(1, 2);
        feed(x, new int[] {0, 0}, new int[] {3, 4}, 1);
        CHECKS.due("embed()", x.embed(), OK);
        x.flip(1);
        x.setCost(0, WET);
        x.setCost(1, WET);
        CHECKS.due("both wet: embed()", x.embed(), NO_SOLUTION);
        checkResultAbsent("both wet", x);
        x.setCost(1, 8);
        checkResultAbsent("dry again, before embed", x);
        CHECKS.due("dry again: embed()", x.embed(), OK);
        CHECKS.due("dry again: totalCost()", x.totalCost(), 8);
        CHECKS.due("dry again: extractBit(0)", x.extractBit(0), 1);
        x.loadColumn(1, 0);
        CHECKS.due("column 0 and wet: embed()", x.embed(), NO_SOLUTION);
        checkResultAbsent("column 0 and wet", x);
    }

    private static void bothVectorsAreTheBest() {
        CHECKS.sentence("Promise 11", "The altered vector and the received vector are both the best solution; the "
                + "least cost is its cost");
        for (State state : State.all()) {
            if (state.hasResult) {
                SyndromeEmbedder x = state.make();
                CHECKS.due(state.name + ": embed()", x.embed(), OK);
                int cost = 0;
                for (int i = 0; i < state.n; i++) {
                    boolean changed = x.alteredBit(i) != state.coverBits()[i];
                    cost += changed ? state.coverCosts()[i] : 0;
                    CHECKS.holds(state.name + ": " + i + " is not wet", !changed || state.coverCosts()[i] != WET);
                }
                CHECKS.due(state.name + ": totalCost()", x.totalCost(), cost);
                for (int row = 0; row < state.k; row++) {
                    CHECKS.due(state.name + ": extractBit(" + row + ")", x.extractBit(row), state.messageBits()[row]);
                    CHECKS.due(state.name + ": row " + row + " of the altered vector",
                            rowOf(state, x, row), state.messageBits()[row]);
                }
            }
        }
    }

    private static int rowOf(State state, SyndromeEmbedder x, int r) {
        int sum = 0;
        for (int i = 0; i < state.n; i++) {
            int below = r - i / state.w;
            if (below >= 0 && below < state.h) {
                sum += (x.columnBits(i % state.w) >> below & 1) * x.alteredBit(i);
            }
        }
        return sum % 2;
    }

    private static void onlySolutionCounts() {
        CHECKS.sentence("Promise 11", "the optimal count is the number of solutions (the best one included) that have "
                + "this cost.");
        SyndromeEmbedder one = new SyndromeEmbedder(1, 1);
        feed(one, new int[] {1}, new int[] {WET}, 1);
        CHECKS.due("the cover as it is: embed()", one.embed(), OK);
        CHECKS.due("the cover as it is: optimalCount()", one.optimalCount(), 1);
        int[][] costs = {{5, 5, 5}, {5, 5, 6}, {5, 6, 6}, {6, 6, 5}, {6, 5, 5}, {0, 0, 5}, {0, 5, 0}, {2, 1, 1}};
        int[] counts = {3, 2, 1, 1, 2, 2, 2, 2};
        for (int number = 0; number < costs.length; number++) {
            SyndromeEmbedder x = new SyndromeEmbedder(1, 3);
            feed(x, new int[3], costs[number], 1);
            CHECKS.due("costs " + number + ": embed()", x.embed(), OK);
            CHECKS.due("costs " + number + ": optimalCount()", x.optimalCount(), counts[number]);
        }
    }

    private static void freeChangesAreCountedApart() {
        CHECKS.sentence("Promise 11", "Solutions that differ only at elements of cost 0 are different solutions and "
                + "are counted separately.");
        for (int free = 0; free <= 4; free++) {
            SyndromeEmbedder x = new SyndromeEmbedder(1, 2);
            x.loadColumn(1, 0);
            for (int i = 0; i < 10; i++) {
                // The odd elements reach no row; the first of them are free, the others cost 1.
                x.addCover(i % 3 == 0 ? 1 : 0, i % 2 == 0 ? 7 : i / 2 < free ? 0 : 1);
            }
            int wrong = 0;
            for (int row = 0; row < 5; row++) {
                x.addMessage(1);
                wrong += 2 * row % 3 == 0 ? 0 : 1;
            }
            CHECKS.due(free + " free: embed()", x.embed(), OK);
            CHECKS.due(free + " free: totalCost()", x.totalCost(), 7 * wrong);
            CHECKS.due(free + " free: optimalCount()", x.optimalCount(), 1 << free);
            for (int i = 1; i < 10; i += 2) {
                CHECKS.due(free + " free: alteredBit(" + i + ")", x.alteredBit(i), i % 3 == 0 ? 1 : 0);
            }
        }
    }

    private static void flipsAreUndone() {
        CHECKS.sentence("Promise 11", "An earlier result is replaced, so earlier flips are undone.");
        for (State state : State.all()) {
            if (state.hasResult) {
                SyndromeEmbedder once = embedded(state);
                List<String> want = Transcript.readers(once);
                SyndromeEmbedder x = state.make();
                for (int i = 0; i < state.n; i++) {
                    x.flip(i);
                    CHECKS.due(state.name + ", flipped " + i + ": embed()", x.embed(), OK);
                    CHECKS.same(state.name + ", flipped " + i, Transcript.readers(x), want);
                }
                CHECKS.changeNothing(state.name + ", all flipped", () -> embedded(state), y -> {
                    for (int i = 0; i < state.n; i++) {
                        y.flip(i);
                    }
                    CHECKS.due(state.name + ", all flipped: embed()", y.embed(), OK);
                });
            }
        }
    }

    private static SyndromeEmbedder embedded(State state) {
        SyndromeEmbedder x = state.make();
        x.embed();
        return x;
    }

    private static void earlierResultIsReplaced() {
        CHECKS.sentence("Promise 11", "An earlier result is replaced");
        SyndromeEmbedder x = new SyndromeEmbedder(1, 3);
        feed(x, new int[] {0, 0, 0}, new int[] {1, 9, 9}, 1);
        // Dearer than before, cheaper than before, with more and with fewer solutions.
        int[][] costs = {{1, 9, 9}, {20, 9, 9}, {20, 30, 9}, {20, 30, 40}, {0, 0, 0}, {WET, WET, 3}};
        int[][] due = {{1, 1, 0}, {9, 2, 1}, {9, 1, 2}, {20, 1, 0}, {0, 4, 0}, {3, 1, 2}};
        for (int number = 0; number < costs.length; number++) {
            for (int i = 0; i < 3; i++) {
                x.setCost(i, costs[number][i]);
            }
            CHECKS.due("costs " + number + ": embed()", x.embed(), OK);
            CHECKS.due("costs " + number + ": totalCost()", x.totalCost(), due[number][0]);
            CHECKS.due("costs " + number + ": optimalCount()", x.optimalCount(), due[number][1]);
            for (int i = 0; i < 3; i++) {
                CHECKS.due("costs " + number + ": alteredBit(" + i + ")", x.alteredBit(i), i == due[number][2] ? 1 : 0);
            }
        }
    }

    private static List<Integer> inputs(SyndromeEmbedder x) {
        List<Integer> all = new ArrayList<>();
        for (int i = -1; i <= 10; i++) {
            all.add(x.coverBit(i));
            all.add(x.coverCost(i));
            all.add(x.messageBit(i));
            all.add(x.columnBits(i));
        }
        return all;
    }

    private static void inputsStay() {
        CHECKS.sentence("Promise 11", "Cover, message and columns do not change.");
        for (State state : State.all()) {
            SyndromeEmbedder x = state.make();
            List<Integer> old = inputs(x);
            for (int round = 0; round < 3; round++) {
                x.embed();
                CHECKS.holds(state.name + ": the inputs stay, round " + round, inputs(x).equals(old));
            }
        }
    }

    private static void documentsExample() {
        CHECKS.sentence("Promise 11", "Four solutions have it, with change numbers 3, 5, 11 and 13, so the optimal "
                + "count is 4 and the altered vector is 1, 1, 0, 0.");
        SyndromeEmbedder x = new SyndromeEmbedder(2, 2);
        x.loadColumn(0, 3);
        x.loadColumn(1, 2);
        feed(x, new int[] {0, 0, 0, 0}, new int[] {5, 2, 2, 0}, 1, 0);
        CHECKS.due("embed()", x.embed(), OK);
        CHECKS.due("totalCost()", x.totalCost(), 7);
        CHECKS.due("optimalCount()", x.optimalCount(), 4);
        int[] altered = {1, 1, 0, 0};
        for (int i = 0; i < 4; i++) {
            CHECKS.due("alteredBit(" + i + ")", x.alteredBit(i), altered[i]);
        }
    }

    private static void tieByChangeNumber() {
        CHECKS.sentence("Promise 11, the tie", "The altered vector and the received vector are both the best solution");
        for (int pattern = 0; pattern < 8; pattern++) {
            for (int wet = 0; wet < 7; wet++) {
                // Each dry element alone gives the message, at the same cost: the one of least number is due.
                SyndromeEmbedder x = new SyndromeEmbedder(1, 3);
                for (int i = 0; i < 3; i++) {
                    x.addCover(pattern >> i & 1, (wet >> i & 1) == 1 ? WET : 6);
                }
                x.addMessage(1 - Integer.bitCount(pattern) % 2);
                int first = Integer.numberOfTrailingZeros(~wet);
                String when = "cover " + pattern + ", wet " + wet;
                CHECKS.due(when + ": embed()", x.embed(), OK);
                // With three dry ones all three together would cost more, so only the single changes count.
                CHECKS.due(when + ": optimalCount()", x.optimalCount(), 3 - Integer.bitCount(wet));
                for (int i = 0; i < 3; i++) {
                    int want = (pattern ^ 1 << first) >> i & 1;
                    CHECKS.due(when + ": alteredBit(" + i + ")", x.alteredBit(i), want);
                }
            }
        }
    }

    private static void tieOfMoreChanges() {
        CHECKS.sentence("Promise 11, the tie of more changes", "The altered vector and the received vector are both "
                + "the best solution");
        SyndromeEmbedder x = new SyndromeEmbedder(2, 3);
        x.loadColumn(0, 1);
        x.loadColumn(1, 2);
        x.loadColumn(2, 3);
        feed(x, new int[] {1, 0, 1, 0, 0, 0}, new int[] {1, 1, 2, WET, WET, WET}, 1, 0);
        // Elements 0 and 1 together (number 3) cost what element 2 alone (number 4) does.
        CHECKS.due("embed()", x.embed(), OK);
        CHECKS.due("totalCost()", x.totalCost(), 2);
        CHECKS.due("optimalCount()", x.optimalCount(), 2);
        int[] altered = {0, 1, 1, 0, 0, 0};
        for (int i = 0; i < 6; i++) {
            CHECKS.due("alteredBit(" + i + ")", x.alteredBit(i), altered[i]);
        }
    }

    private static void checkNumber(String promise, String words, int least,
            ToIntFunction<SyndromeEmbedder> number) {
        CHECKS.sentence(promise, words);
        for (State state : State.all()) {
            int got = number.applyAsInt(state.make());
            CHECKS.holds(state.name + ": " + got, state.hasResult ? got >= least : got == NO_RESULT);
        }
        CHECKS.sentence(promise, "Flips have no effect on it.");
        for (State state : State.all()) {
            if (state.hasResult) {
                SyndromeEmbedder x = state.make();
                int want = number.applyAsInt(x);
                for (int i = 0; i < 2 * state.n; i++) {
                    x.flip(i / 2);
                    CHECKS.due(state.name + ", flipped " + i / 2, number.applyAsInt(x), want);
                }
            }
        }
        CHECKS.sentence(promise, "It changes nothing.");
        for (State state : State.all()) {
            CHECKS.changeNothing(state.name, state::make, x -> {
                number.applyAsInt(x);
                number.applyAsInt(x);
            });
        }
    }
}
