import java.util.ArrayList;
import java.util.List;

/** The edges of promises 14, 15 and 16: alteredBit, flip and extractBit. */
public final class ChannelEdgeTest {
    private static final int OK = SyndromeEmbedder.OK;
    private static final int BAD = SyndromeEmbedder.BAD;
    private static final int WET = SyndromeEmbedder.WET;
    private static final int NO_RESULT = SyndromeEmbedder.NO_RESULT;
    private static final Checks CHECKS = new Checks();

    public static void main(String[] args) {
        alteredBitWithoutResult();
        alteredBitOutOfRange();
        alteredBitAfterFlips();
        alteredBitChangesNothing();
        flipWithoutResult();
        flipOutOfRange();
        flipOfWet();
        flipLeavesTheRest();
        flipTwice();
        extractWithoutResult();
        extractOutOfRange();
        extractWithAllFlips();
        extractWithNoFlips();
        extractChangesNothing();
        CHECKS.end();
    }

    private static void alteredBitWithoutResult() {
        CHECKS.sentence("Promise 14", "First: NO_RESULT if the result is absent, whatever the argument.");
        for (State state : State.all()) {
            if (!state.hasResult) {
                SyndromeEmbedder x = state.make();
                for (int index : Ints.any()) {
                    CHECKS.due(state.name + ": alteredBit(" + index + ")", x.alteredBit(index), NO_RESULT);
                }
            }
        }
    }

    private static void alteredBitOutOfRange() {
        CHECKS.sentence("Promise 14", "Then: BAD if index is not in 0..n-1.");
        for (State state : State.all()) {
            if (state.hasResult) {
                SyndromeEmbedder x = state.make();
                for (int index : Ints.outside(0, state.n - 1)) {
                    CHECKS.due(state.name + ": alteredBit(" + index + ")", x.alteredBit(index), BAD);
                }
                for (int i = 0; i < state.n; i++) {
                    int bit = x.alteredBit(i);
                    CHECKS.holds(state.name + ": alteredBit(" + i + ") is a bit", bit == 0 || bit == 1);
                }
            }
        }
    }

    private static void alteredBitAfterFlips() {
        CHECKS.sentence("Promise 14", "Flips have no effect on this.");
        for (State state : State.all()) {
            if (state.hasResult) {
                SyndromeEmbedder x = state.make();
                x.embed();
                SyndromeEmbedder old = state.make();
                for (int flipped = 0; flipped < state.n; flipped++) {
                    x.flip(flipped);
                    for (int i = 0; i < state.n; i++) {
                        CHECKS.due(state.name + ": alteredBit(" + i + ")", x.alteredBit(i), old.alteredBit(i));
                    }
                }
            }
        }
    }

    private static void alteredBitChangesNothing() {
        CHECKS.sentence("Promise 14", "It changes nothing.");
        for (State state : State.all()) {
            CHECKS.changeNothing(state.name, state::make, x -> {
                for (int index : Ints.any()) {
                    x.alteredBit(index);
                }
            });
        }
    }

    private static void flipWithoutResult() {
        CHECKS.sentence("Promise 15", "First: NO_RESULT if the result is absent, whatever the argument.");
        for (State state : State.all()) {
            if (!state.hasResult) {
                CHECKS.changeNothing(state.name, state::make, x -> {
                    for (int index : Ints.any()) {
                        CHECKS.due(state.name + ": flip(" + index + ")", x.flip(index), NO_RESULT);
                    }
                });
            }
        }
    }

    private static void flipOutOfRange() {
        CHECKS.sentence("Promise 15", "Then: BAD if index is not in 0..n-1.");
        for (State state : State.all()) {
            if (state.hasResult) {
                CHECKS.changeNothing(state.name, state::make, x -> {
                    for (int index : Ints.outside(0, state.n - 1)) {
                        CHECKS.due(state.name + ": flip(" + index + ")", x.flip(index), BAD);
                        CHECKS.due(state.name + ": extractBit(0)", x.extractBit(0), state.make().extractBit(0));
                    }
                });
            }
        }
    }

    /** Column 1 at width 1: element i alone gives row i. */
    private static SyndromeEmbedder straight(int pattern, int cost) {
        SyndromeEmbedder x = new SyndromeEmbedder(1, 1);
        for (int i = 0; i < 10; i++) {
            x.addCover(pattern >> i & 1, cost);
            x.addMessage(pattern >> i & 1);
        }
        CHECKS.due("embed()", x.embed(), OK);
        return x;
    }

    private static void checkRows(String when, SyndromeEmbedder x, int want) {
        for (int row = 0; row < 10; row++) {
            CHECKS.due(when + ": extractBit(" + row + ")", x.extractBit(row), want >> row & 1);
        }
    }

    private static void flipOfWet() {
        CHECKS.sentence("Promise 15", "Otherwise bit index of the received vector is inverted, whatever its cost (WET "
                + "included), and the answer is OK.");
        int[] costs = {WET, 0, 1, 1000};
        for (int cost : costs) {
            for (int pattern = 0; pattern < 1024; pattern += 31) {
                SyndromeEmbedder x = straight(pattern, cost);
                int received = pattern;
                for (int i = 0; i < 10; i++) {
                    CHECKS.due("cost " + cost + ": flip(" + i + ")", x.flip(i), OK);
                    received ^= 1 << i;
                    checkRows("cost " + cost + ", flipped " + i, x, received);
                }
            }
        }
    }

    private static List<Integer> allButReceived(SyndromeEmbedder x) {
        List<Integer> all = new ArrayList<>();
        all.add(x.totalCost());
        all.add(x.optimalCount());
        for (int i = -1; i <= 10; i++) {
            all.add(x.alteredBit(i));
            all.add(x.coverBit(i));
            all.add(x.coverCost(i));
            all.add(x.messageBit(i));
            all.add(x.columnBits(i));
        }
        return all;
    }

    private static void flipLeavesTheRest() {
        CHECKS.sentence("Promise 15", "Nothing else changes: the result stays present, and the altered vector, the "
                + "least cost, the optimal count, the cover, the message and the columns stay as they are.");
        for (State state : State.all()) {
            if (state.hasResult) {
                SyndromeEmbedder x = state.make();
                List<Integer> old = allButReceived(x);
                for (int round = 0; round < 5; round++) {
                    for (int i = 0; i < state.n; i++) {
                        CHECKS.due(state.name + ": flip(" + i + ")", x.flip(i), OK);
                        CHECKS.holds(state.name + ": the rest stays, flip " + i, allButReceived(x).equals(old));
                    }
                }
            }
        }
    }

    private static void flipTwice() {
        CHECKS.sentence("Promise 15",
                "Flipping the same index a second time restores that bit of the received vector.");
        for (State state : State.all()) {
            if (state.hasResult) {
                CHECKS.changeNothing(state.name, state::make, x -> {
                    List<String> old = Transcript.readers(x);
                    for (int i = 0; i < state.n; i++) {
                        for (int times = 2; times <= 6; times += 2) {
                            x.flip(i);
                            x.flip(i);
                            CHECKS.same(state.name + ", " + i + " flipped " + times, Transcript.readers(x), old);
                        }
                        x.flip(i);
                        for (int other = 0; other < state.n; other++) {
                            x.flip(other);
                        }
                        for (int other = state.n - 1; other >= 0; other--) {
                            x.flip(other);
                        }
                        x.flip(i);
                        CHECKS.same(state.name + ", " + i + " flipped among others", Transcript.readers(x), old);
                    }
                });
            }
        }
    }

    private static void extractWithoutResult() {
        CHECKS.sentence("Promise 16", "First: NO_RESULT if the result is absent, whatever the argument.");
        for (State state : State.all()) {
            if (!state.hasResult) {
                SyndromeEmbedder x = state.make();
                for (int row : Ints.any()) {
                    CHECKS.due(state.name + ": extractBit(" + row + ")", x.extractBit(row), NO_RESULT);
                }
            }
        }
    }

    private static void extractOutOfRange() {
        CHECKS.sentence("Promise 16", "Then: BAD if row is not in 0..k-1.");
        for (State state : State.all()) {
            if (state.hasResult) {
                SyndromeEmbedder x = state.make();
                // Rows k..n-1 are among these where w > 1.
                for (int row : Ints.outside(0, state.k - 1)) {
                    CHECKS.due(state.name + ": extractBit(" + row + ")", x.extractBit(row), BAD);
                }
                for (int row = 0; row < state.k; row++) {
                    int bit = x.extractBit(row);
                    CHECKS.holds(state.name + ": extractBit(" + row + ") is a bit", bit == 0 || bit == 1);
                }
            }
        }
    }

    private static void extractWithAllFlips() {
        CHECKS.sentence("Promise 16", "The received vector is taken with all flips made since the embed that gave the "
                + "result.");
        for (int flips = 0; flips < 1024; flips++) {
            SyndromeEmbedder x = straight(614, 1);
            // Flips before the second embed must not show, those after it must.
            x.flip(flips % 10);
            x.flip(flips / 10 % 10);
            x.embed();
            for (int i = 0; i < 10; i++) {
                if ((flips >> i & 1) == 1) {
                    x.flip(i);
                }
            }
            checkRows("flips " + flips, x, 614 ^ flips);
        }
    }

    private static void extractWithNoFlips() {
        CHECKS.sentence("Promise 16", "With no flips, the answer is m(row).");
        for (int pattern = 0; pattern < 1024; pattern++) {
            SyndromeEmbedder x = new SyndromeEmbedder(4, 1);
            x.loadColumn(0, 2 * (pattern % 8) + 1);
            for (int i = 0; i < 10; i++) {
                x.addCover(i & 1, i);
                x.addMessage(pattern >> i & 1);
            }
            CHECKS.due("message " + pattern + ": embed()", x.embed(), OK);
            checkRows("message " + pattern, x, pattern);
        }
    }

    private static void extractChangesNothing() {
        CHECKS.sentence("Promise 16", "It changes nothing.");
        for (State state : State.all()) {
            CHECKS.changeNothing(state.name, state::make, x -> {
                for (int row : Ints.any()) {
                    x.extractBit(row);
                }
            });
        }
    }
}
