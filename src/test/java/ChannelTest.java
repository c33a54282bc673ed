/** Promises 15 and 16: flip and extractBit. */
public final class ChannelTest {
    private static final int OK = SyndromeEmbedder.OK;
    private static final int BAD = SyndromeEmbedder.BAD;
    private static final int NO_RESULT = SyndromeEmbedder.NO_RESULT;
    private static final int[] FAR = {Integer.MIN_VALUE, -32, -1, 6, 7, 10, 32, 38, Integer.MAX_VALUE};
    // The columns of H for submatrix columns 5 and 3 of height 3 at k = 3, row r with weight 2^r.
    private static final int[] MATRIX = {5, 3, 2, 6, 4, 4};
    private static final int MESSAGE = 5;
    private static final Checks CHECKS = new Checks();

    public static void main(String[] args) {
        checkWithoutResult();
        checkEveryError();
        checkWrongArguments();
        checkRestStays();
        CHECKS.end();
    }

    private static SyndromeEmbedder fed() {
        SyndromeEmbedder x = new SyndromeEmbedder(3, 2);
        x.loadColumn(0, 5);
        x.loadColumn(1, 3);
        for (int i = 0; i < 6; i++) {
            x.addCover(i & 1, i == 1 ? SyndromeEmbedder.WET : i);
        }
        x.addMessage(1);
        x.addMessage(0);
        x.addMessage(1);
        return x;
    }

    private static void checkWithoutResult() {
        SyndromeEmbedder x = fed();
        int[] arguments = {Integer.MIN_VALUE, -1, 0, 2, 6, 100, Integer.MAX_VALUE};
        for (int argument : arguments) {
            CHECKS.due("flip(" + argument + ") without a result", x.flip(argument), NO_RESULT);
            CHECKS.due("extractBit(" + argument + ") without a result", x.extractBit(argument), NO_RESULT);
        }
        CHECKS.due("embed()", x.embed(), OK);
        checkMessage("after refused flips", x, MESSAGE);
    }

    private static void checkMessage(String when, SyndromeEmbedder x, int message) {
        for (int row = 0; row < 3; row++) {
            CHECKS.due(when + ": extractBit(" + row + ")", x.extractBit(row), (message >> row) & 1);
        }
        for (int far : FAR) {
            CHECKS.due(when + ": extractBit(" + far + ")", x.extractBit(far), BAD);
        }
        CHECKS.due(when + ": extractBit(3)", x.extractBit(3), BAD);
    }

    private static void checkEveryError() {
        for (int error = 0; error < 64; error++) {
            SyndromeEmbedder x = fed();
            CHECKS.due("embed()", x.embed(), OK);
            checkMessage("no error", x, MESSAGE);
            int message = MESSAGE;
            for (int i = 0; i < 6; i++) {
                if (((error >> i) & 1) == 1) {
                    CHECKS.due("flip(" + i + ")", x.flip(i), OK);
                    message ^= MATRIX[i];
                    checkMessage("in error " + error, x, message);
                }
            }
            for (int i = 0; i < 6; i++) {
                if (((error >> i) & 1) == 1) {
                    CHECKS.due("flip(" + i + ") back", x.flip(i), OK);
                }
            }
            checkMessage("after error " + error + " twice", x, MESSAGE);
        }
    }

    private static void checkWrongArguments() {
        SyndromeEmbedder x = fed();
        x.embed();
        x.flip(0);
        for (int far : FAR) {
            CHECKS.due("flip(" + far + ")", x.flip(far), BAD);
            checkMessage("after flip(" + far + ")", x, MESSAGE ^ MATRIX[0]);
        }
    }

    private static void checkRestStays() {
        SyndromeEmbedder x = fed();
        x.embed();
        int cost = x.totalCost();
        int count = x.optimalCount();
        int forced = x.forcedCost(2, 1);
        int[] altered = new int[6];
        for (int i = 0; i < 6; i++) {
            altered[i] = x.alteredBit(i);
        }
        for (int flipped = 0; flipped < 6; flipped++) {
            CHECKS.due("flip(" + flipped + ")", x.flip(flipped), OK);
            CHECKS.due("totalCost()", x.totalCost(), cost);
            CHECKS.due("optimalCount()", x.optimalCount(), count);
            CHECKS.due("forcedCost(2, 1)", x.forcedCost(2, 1), forced);
            for (int i = 0; i < 6; i++) {
                CHECKS.due("alteredBit(" + i + ")", x.alteredBit(i), altered[i]);
                CHECKS.due("coverBit(" + i + ")", x.coverBit(i), i & 1);
                CHECKS.due("coverCost(" + i + ")", x.coverCost(i), i == 1 ? SyndromeEmbedder.WET : i);
            }
            for (int row = 0; row < 3; row++) {
                CHECKS.due("messageBit(" + row + ")", x.messageBit(row), (MESSAGE >> row) & 1);
            }
            CHECKS.due("columnBits(0)", x.columnBits(0), 5);
            CHECKS.due("columnBits(1)", x.columnBits(1), 3);
        }
    }
}
