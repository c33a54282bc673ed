/** The edges of promises 2 and 3: loadColumn and columnBits. */
public final class ColumnEdgeTest {
    private static final int OK = SyndromeEmbedder.OK;
    private static final int BAD = SyndromeEmbedder.BAD;
    private static final int NO_RESULT = SyndromeEmbedder.NO_RESULT;
    private static final Checks CHECKS = new Checks();

    public static void main(String[] args) {
        columnOutOfRange();
        bitsOutOfRange();
        sameValueDropsTheResult();
        newValueDropsTheResult();
        zeroIsAllowed();
        restStays();
        columnBitsOutOfRange();
        columnBitsChangesNothing();
        CHECKS.end();
    }

    private static void columnOutOfRange() {
        CHECKS.sentence("Promise 2", "It answers BAD, and changes nothing, if column is not in 0..w-1");
        for (State state : State.all()) {
            CHECKS.changeNothing(state.name, state::make, x -> {
                for (int column : Ints.outside(0, state.w - 1)) {
                    for (int bits = 0; bits < 1 << state.h; bits++) {
                        String call = state.name + ": loadColumn(" + column + ", " + bits + ")";
                        CHECKS.due(call, x.loadColumn(column, bits), BAD);
                    }
                }
            });
        }
    }

    private static void bitsOutOfRange() {
        CHECKS.sentence("Promise 2", "It answers BAD, and changes nothing, if .. bits is not in 0..2^h-1.");
        for (State state : State.all()) {
            CHECKS.changeNothing(state.name, state::make, x -> {
                for (int bits : Ints.outside(0, (1 << state.h) - 1)) {
                    for (int column = 0; column < state.w; column++) {
                        String call = state.name + ": loadColumn(" + column + ", " + bits + ")";
                        CHECKS.due(call, x.loadColumn(column, bits), BAD);
                    }
                }
            });
        }
    }

    private static void checkResultAbsent(String when, SyndromeEmbedder x) {
        CHECKS.due(when + ": totalCost()", x.totalCost(), NO_RESULT);
        CHECKS.due(when + ": optimalCount()", x.optimalCount(), NO_RESULT);
        CHECKS.due(when + ": alteredBit(0)", x.alteredBit(0), NO_RESULT);
        CHECKS.due(when + ": flip(0)", x.flip(0), NO_RESULT);
        CHECKS.due(when + ": extractBit(0)", x.extractBit(0), NO_RESULT);
    }

    private static void sameValueDropsTheResult() {
        CHECKS.sentence("Promise 2", "the result becomes absent (even if the column had this value already)");
        for (State state : State.all()) {
            for (int column = 0; column < state.w; column++) {
                SyndromeEmbedder x = state.make();
                String call = state.name + ", the same value in column " + column;
                CHECKS.due(call, x.loadColumn(column, x.columnBits(column)), OK);
                checkResultAbsent(call, x);
            }
        }
    }

    private static void newValueDropsTheResult() {
        CHECKS.sentence("Promise 2", "Otherwise that column becomes bits, the result becomes absent .., and the answer "
                + "is OK.");
        for (State state : State.all()) {
            for (int column = 0; column < state.w; column++) {
                for (int bits = 0; bits < 1 << state.h; bits++) {
                    SyndromeEmbedder x = state.make();
                    String call = state.name + ": loadColumn(" + column + ", " + bits + ")";
                    CHECKS.due(call, x.loadColumn(column, bits), OK);
                    CHECKS.due(call + ", columnBits", x.columnBits(column), bits);
                    checkResultAbsent(call, x);
                }
            }
        }
    }

    private static void zeroIsAllowed() {
        CHECKS.sentence("Promise 2", "The value 0 is allowed.");
        for (int h = 1; h <= 4; h++) {
            for (int w = 1; w <= 3; w++) {
                SyndromeEmbedder x = new SyndromeEmbedder(h, w);
                for (int column = 0; column < w; column++) {
                    String call = "h " + h + ", w " + w + ": loadColumn(" + column + ", 0)";
                    CHECKS.due(call, x.loadColumn(column, 0), OK);
                    CHECKS.due(call + ", columnBits", x.columnBits(column), 0);
                }
                for (int i = 0; i < w; i++) {
                    x.addCover(1, 1);
                }
                x.addMessage(0);
                CHECKS.due("h " + h + ", w " + w + ", zeros: embed()", x.embed(), OK);
                CHECKS.due("h " + h + ", w " + w + ", zeros: extractBit(0)", x.extractBit(0), 0);
            }
        }
    }

    private static void restStays() {
        CHECKS.sentence("Promise 2", "The other columns, the cover and the message do not change.");
        for (State state : State.all()) {
            for (int column = 0; column < state.w; column++) {
                SyndromeEmbedder x = state.make();
                SyndromeEmbedder old = state.make();
                x.loadColumn(column, 0);
                x.loadColumn(column, (1 << state.h) - 1);
                for (int other = 0; other < state.w; other++) {
                    if (other != column) {
                        CHECKS.due(state.name + ": columnBits", x.columnBits(other), old.columnBits(other));
                    }
                }
                for (int i = -1; i <= 10; i++) {
                    CHECKS.due(state.name + ": coverBit(" + i + ")", x.coverBit(i), old.coverBit(i));
                    CHECKS.due(state.name + ": coverCost(" + i + ")", x.coverCost(i), old.coverCost(i));
                    CHECKS.due(state.name + ": messageBit(" + i + ")", x.messageBit(i), old.messageBit(i));
                }
            }
        }
    }

    private static void columnBitsOutOfRange() {
        CHECKS.sentence("Promise 3", "columnBits(column) answers the value of that submatrix column, or BAD if column "
                + "is not in 0..w-1.");
        for (State state : State.all()) {
            SyndromeEmbedder x = state.make();
            for (int column : Ints.outside(0, state.w - 1)) {
                CHECKS.due(state.name + ": columnBits(" + column + ")", x.columnBits(column), BAD);
            }
            int[] values = state.columnValues();
            for (int column = 0; column < values.length; column++) {
                CHECKS.due(state.name + ": columnBits(" + column + ")", x.columnBits(column), values[column]);
            }
        }
    }

    private static void columnBitsChangesNothing() {
        CHECKS.sentence("Promise 3", "It changes nothing.");
        for (State state : State.all()) {
            CHECKS.changeNothing(state.name, state::make, x -> {
                for (int column : Ints.any()) {
                    x.columnBits(column);
                }
            });
        }
    }
}
