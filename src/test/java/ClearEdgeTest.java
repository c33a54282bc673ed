/** The edges of promise 7: clear, in every kind of state. */
public final class ClearEdgeTest {
    private static final int BAD = SyndromeEmbedder.BAD;
    private static final int NOT_READY = SyndromeEmbedder.NOT_READY;
    private static final int NO_RESULT = SyndromeEmbedder.NO_RESULT;
    private static final Checks CHECKS = new Checks();

    public static void main(String[] args) {
        emptiesInEveryState();
        dropsTheResultInEveryState();
        columnsAndSizesStay();
        notReadyAfterwards();
        nothingOldShows();
        CHECKS.end();
    }

    private static SyndromeEmbedder cleared(State state) {
        SyndromeEmbedder x = state.make();
        x.clear();
        return x;
    }

    private static void emptiesInEveryState() {
        CHECKS.sentence("Promise 7", "clear() empties the cover and the message (n = 0, k = 0) .., in every state.");
        for (State state : State.all()) {
            SyndromeEmbedder x = cleared(state);
            for (int index : Ints.any()) {
                CHECKS.due(state.name + ": coverBit(" + index + ")", x.coverBit(index), BAD);
                CHECKS.due(state.name + ": coverCost(" + index + ")", x.coverCost(index), BAD);
                CHECKS.due(state.name + ": setCost(" + index + ", 1)", x.setCost(index, 1), BAD);
                CHECKS.due(state.name + ": messageBit(" + index + ")", x.messageBit(index), BAD);
            }
        }
    }

    private static void dropsTheResultInEveryState() {
        CHECKS.sentence("Promise 7", "and makes the result absent, in every state.");
        for (State state : State.all()) {
            SyndromeEmbedder x = cleared(state);
            CHECKS.due(state.name + ": totalCost()", x.totalCost(), NO_RESULT);
            CHECKS.due(state.name + ": optimalCount()", x.optimalCount(), NO_RESULT);
            for (int index : Ints.any()) {
                CHECKS.due(state.name + ": alteredBit(" + index + ")", x.alteredBit(index), NO_RESULT);
                CHECKS.due(state.name + ": flip(" + index + ")", x.flip(index), NO_RESULT);
                CHECKS.due(state.name + ": extractBit(" + index + ")", x.extractBit(index), NO_RESULT);
            }
        }
    }

    private static void columnsAndSizesStay() {
        CHECKS.sentence("Promise 7", "The columns stay as they are, and so do h and w.");
        for (State state : State.all()) {
            SyndromeEmbedder x = cleared(state);
            SyndromeEmbedder old = state.make();
            for (int column = -1; column <= 4; column++) {
                CHECKS.due(state.name + ": columnBits(" + column + ")", x.columnBits(column), old.columnBits(column));
            }
            CHECKS.due(state.name + ": loadColumn(0, 2^h)", x.loadColumn(0, 1 << state.h), BAD);
            CHECKS.due(state.name + ": loadColumn(0, 2^h - 1)", x.loadColumn(0, (1 << state.h) - 1), 0);
            for (int row = 0; row < state.messageLimit(); row++) {
                CHECKS.due(state.name + ": addMessage " + row, x.addMessage(1), 0);
            }
            CHECKS.due(state.name + ": addMessage", x.addMessage(1), SyndromeEmbedder.FULL);
        }
    }

    private static void notReadyAfterwards() {
        CHECKS.sentence("Promise 7", "Afterwards the object is not ready.");
        for (State state : State.all()) {
            SyndromeEmbedder x = cleared(state);
            CHECKS.due(state.name + ": forcedCost(0, 0)", x.forcedCost(0, 0), NOT_READY);
            CHECKS.due(state.name + ": embed()", x.embed(), NOT_READY);
        }
    }

    /** What is fed after the clear goes as on an object that never had anything but the columns. */
    private static void nothingOldShows() {
        CHECKS.sentence("Promise 7", "clear() empties the cover and the message (n = 0, k = 0) and makes the result "
                + "absent, in every state.");
        for (State state : State.all()) {
            CHECKS.same(state.name, Transcript.life(() -> cleared(state)), Transcript.life(state::withColumns));
            CHECKS.changeNothing(state.name + ", twice", () -> cleared(state), SyndromeEmbedder::clear);
        }
    }
}
