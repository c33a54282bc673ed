/** The edges of promises 6 and 10: addMessage and messageBit. */
public final class MessageEdgeTest {
    private static final int OK = SyndromeEmbedder.OK;
    private static final int BAD = SyndromeEmbedder.BAD;
    private static final int FULL = SyndromeEmbedder.FULL;
    private static final int NO_RESULT = SyndromeEmbedder.NO_RESULT;
    private static final int[] LIMITS = {0, 10, 5, 3};
    private static final Checks CHECKS = new Checks();

    public static void main(String[] args) {
        fullWhateverTheArgument();
        limitsByWidth();
        addWrongBit();
        addAppends();
        addDropsTheResult();
        addLeavesTheRest();
        messageBitOutOfRange();
        messageBitAsFed();
        messageBitChangesNothing();
        CHECKS.end();
    }

    private static SyndromeEmbedder full(int w) {
        SyndromeEmbedder x = new SyndromeEmbedder(2, w);
        for (int row = 0; row < LIMITS[w]; row++) {
            x.addMessage(row & 1);
        }
        return x;
    }

    private static void fullWhateverTheArgument() {
        CHECKS.sentence("Promise 6", "First: FULL if k is the message limit (10, 5, 3 for w = 1, 2, 3), whatever the "
                + "argument.");
        for (int width = 1; width <= 3; width++) {
            int w = width;
            CHECKS.changeNothing("w " + w, () -> full(w), x -> {
                for (int bit : Ints.any()) {
                    CHECKS.due("w " + w + ": addMessage(" + bit + ")", x.addMessage(bit), FULL);
                }
            });
        }
    }

    private static void limitsByWidth() {
        CHECKS.sentence("Promise 6", "(10, 5, 3 for w = 1, 2, 3)");
        for (int h = 1; h <= 4; h++) {
            for (int w = 1; w <= 3; w++) {
                for (int n = 0; n <= 10; n++) {
                    SyndromeEmbedder x = new SyndromeEmbedder(h, w);
                    for (int i = 0; i < n; i++) {
                        x.addCover(0, 0);
                    }
                    String made = "h " + h + ", w " + w + ", n " + n + ": ";
                    for (int row = 0; row < LIMITS[w]; row++) {
                        CHECKS.due(made + "addMessage " + row, x.addMessage(1), OK);
                    }
                    CHECKS.due(made + "addMessage at the limit", x.addMessage(1), FULL);
                    CHECKS.due(made + "the last bit", x.messageBit(LIMITS[w] - 1), 1);
                    CHECKS.due(made + "past the last bit", x.messageBit(LIMITS[w]), BAD);
                }
            }
        }
    }

    private static void addWrongBit() {
        CHECKS.sentence("Promise 6", "Then: BAD if bit is not 0 or 1.");
        for (State state : State.all()) {
            if (state.k < state.messageLimit()) {
                CHECKS.changeNothing(state.name, state::make, x -> {
                    for (int bit : Ints.notBits()) {
                        CHECKS.due(state.name + ": addMessage(" + bit + ")", x.addMessage(bit), BAD);
                    }
                });
            }
        }
    }

    private static void addAppends() {
        CHECKS.sentence("Promise 6", "Otherwise the bit is appended with number k (the old count), k grows by one, the "
                + "result becomes absent, and the answer is OK.");
        for (State state : State.all()) {
            if (state.k < state.messageLimit()) {
                for (int bit = 0; bit <= 1; bit++) {
                    SyndromeEmbedder x = state.make();
                    String call = state.name + ": addMessage(" + bit + ")";
                    CHECKS.due(call, x.addMessage(bit), OK);
                    CHECKS.due(call + ", messageBit(k)", x.messageBit(state.k), bit);
                    CHECKS.due(call + ", messageBit(k + 1)", x.messageBit(state.k + 1), BAD);
                }
            }
        }
    }

    private static void addDropsTheResult() {
        CHECKS.sentence("Promise 6", "k grows by one, the result becomes absent, and the answer is OK.");
        for (State state : State.all()) {
            if (state.hasResult && state.k < state.messageLimit()) {
                for (int bit = 0; bit <= 1; bit++) {
                    SyndromeEmbedder x = state.make();
                    x.addMessage(bit);
                    String when = state.name + ": addMessage(" + bit + ")";
                    CHECKS.due(when + ", totalCost()", x.totalCost(), NO_RESULT);
                    CHECKS.due(when + ", optimalCount()", x.optimalCount(), NO_RESULT);
                    CHECKS.due(when + ", alteredBit(0)", x.alteredBit(0), NO_RESULT);
                    CHECKS.due(when + ", flip(0)", x.flip(0), NO_RESULT);
                    CHECKS.due(when + ", extractBit(0)", x.extractBit(0), NO_RESULT);
                    CHECKS.due(when + ", embed()", x.embed(), SyndromeEmbedder.NOT_READY);
                }
            }
        }
    }

    private static void addLeavesTheRest() {
        CHECKS.sentence("Promise 6", "Earlier message bits, the cover and the columns do not change.");
        for (State state : State.all()) {
            SyndromeEmbedder x = state.make();
            SyndromeEmbedder old = state.make();
            for (int count = state.k; count <= state.messageLimit(); count++) {
                x.addMessage(1 - (count & 1));
                for (int row = 0; row < state.k; row++) {
                    CHECKS.due(state.name + ": messageBit(" + row + ")", x.messageBit(row), old.messageBit(row));
                }
                for (int i = 0; i <= 10; i++) {
                    CHECKS.due(state.name + ": coverBit(" + i + ")", x.coverBit(i), old.coverBit(i));
                    CHECKS.due(state.name + ": coverCost(" + i + ")", x.coverCost(i), old.coverCost(i));
                    CHECKS.due(state.name + ": columnBits(" + i + ")", x.columnBits(i), old.columnBits(i));
                }
            }
        }
    }

    private static void messageBitOutOfRange() {
        CHECKS.sentence("Promise 10", "messageBit(row) answers m(row), 0 or 1, or BAD if row is not in 0..k-1 (so "
                + "always when the message is empty).");
        for (State state : State.all()) {
            SyndromeEmbedder x = state.make();
            for (int row : Ints.outside(0, state.k - 1)) {
                CHECKS.due(state.name + ": messageBit(" + row + ")", x.messageBit(row), BAD);
            }
            for (int row = 0; row < state.k; row++) {
                CHECKS.due(state.name + ": messageBit(" + row + ")", x.messageBit(row), state.messageBits()[row]);
            }
        }
    }

    private static void messageBitAsFed() {
        CHECKS.sentence("Promise 10", "The answer is the bit as it was fed; flips have no effect on it.");
        for (int pattern = 0; pattern < 1024; pattern += 7) {
            SyndromeEmbedder x = new SyndromeEmbedder(1, 1);
            for (int i = 0; i < 10; i++) {
                x.addCover(0, 1);
                x.addMessage(pattern >> i & 1);
            }
            CHECKS.due("embed()", x.embed(), OK);
            for (int i = 0; i < 10; i++) {
                x.flip(i);
                CHECKS.due("the flip shows: extractBit(" + i + ")", x.extractBit(i), 1 - (pattern >> i & 1));
                for (int row = 0; row < 10; row++) {
                    CHECKS.due("flipped " + i + ": messageBit(" + row + ")", x.messageBit(row), pattern >> row & 1);
                }
            }
        }
    }

    private static void messageBitChangesNothing() {
        CHECKS.sentence("Promise 10", "It changes nothing.");
        for (State state : State.all()) {
            CHECKS.changeNothing(state.name, state::make, x -> {
                for (int row : Ints.any()) {
                    x.messageBit(row);
                }
            });
        }
    }
}
