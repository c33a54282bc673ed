/** Promises 2 and 3: loadColumn and columnBits. */
public final class ColumnTest {
    private static final int OK = SyndromeEmbedder.OK;
    private static final int BAD = SyndromeEmbedder.BAD;
    private static final int[] FAR = {Integer.MIN_VALUE, -1000, -6, -2, -1, 1000, 1 << 16, Integer.MAX_VALUE};
    private static final Checks CHECKS = new Checks();

    public static void main(String[] args) {
        for (int h = 1; h <= 4; h++) {
            for (int w = 1; w <= 3; w++) {
                checkValues(h, w);
                checkWrong(h, w);
            }
        }
        checkResultGoes();
        checkRefusalKeepsResult();
        CHECKS.end();
    }

    private static void checkValues(int h, int w) {
        SyndromeEmbedder x = new SyndromeEmbedder(h, w);
        int[] want = {1, 1, 1};
        for (int column = 0; column < w; column++) {
            for (int bits = 0; bits < 1 << h; bits++) {
                String call = "h " + h + ", w " + w + ": loadColumn(" + column + ", " + bits + ")";
                CHECKS.due(call, x.loadColumn(column, bits), OK);
                want[column] = bits;
                checkColumns(call, x, want, w);
            }
        }
    }

    private static void checkWrong(int h, int w) {
        SyndromeEmbedder x = new SyndromeEmbedder(h, w);
        int[] want = {0, 1, 1};
        x.loadColumn(0, 0);
        String made = "h " + h + ", w " + w + ": ";
        for (int far : FAR) {
            CHECKS.due(made + "loadColumn(" + far + ", 1)", x.loadColumn(far, 1), BAD);
            CHECKS.due(made + "loadColumn(0, " + far + ")", x.loadColumn(0, far), BAD);
            CHECKS.due(made + "columnBits(" + far + ")", x.columnBits(far), BAD);
        }
        CHECKS.due(made + "loadColumn(w, 0)", x.loadColumn(w, 0), BAD);
        CHECKS.due(made + "loadColumn(w - 1, 2^h)", x.loadColumn(w - 1, 1 << h), BAD);
        CHECKS.due(made + "columnBits(w)", x.columnBits(w), BAD);
        checkColumns(made + "after refusals", x, want, w);
    }

    private static void checkColumns(String when, SyndromeEmbedder x, int[] want, int w) {
        for (int column = 0; column < w; column++) {
            CHECKS.due(when + ": columnBits(" + column + ")", x.columnBits(column), want[column]);
        }
    }

    /** Cover 1, 0 with costs 4, WET and message 0 at width 2: a result is present. */
    private static SyndromeEmbedder embedded() {
        SyndromeEmbedder x = new SyndromeEmbedder(2, 2);
        x.addCover(1, 4);
        x.addCover(0, SyndromeEmbedder.WET);
        x.addMessage(0);
        CHECKS.due("embed()", x.embed(), OK);
        CHECKS.due("totalCost()", x.totalCost(), 4);
        return x;
    }

    private static void checkResultGoes() {
        SyndromeEmbedder x = embedded();
        CHECKS.due("loadColumn(1, 1), the same value", x.loadColumn(1, 1), OK);
        CHECKS.due("totalCost() after loadColumn", x.totalCost(), SyndromeEmbedder.NO_RESULT);
        CHECKS.due("coverBit(0)", x.coverBit(0), 1);
        CHECKS.due("coverBit(1)", x.coverBit(1), 0);
        CHECKS.due("coverBit(2)", x.coverBit(2), BAD);
        CHECKS.due("coverCost(0)", x.coverCost(0), 4);
        CHECKS.due("coverCost(1)", x.coverCost(1), SyndromeEmbedder.WET);
        CHECKS.due("messageBit(0)", x.messageBit(0), 0);
        CHECKS.due("messageBit(1)", x.messageBit(1), BAD);
        CHECKS.due("embed() again", x.embed(), OK);
        CHECKS.due("loadColumn(0, 2)", x.loadColumn(0, 2), OK);
        CHECKS.due("optimalCount() after loadColumn", x.optimalCount(), SyndromeEmbedder.NO_RESULT);
        CHECKS.due("embed() with the new column", x.embed(), OK);
        CHECKS.due("totalCost() with the new column", x.totalCost(), 0);
    }

    private static void checkRefusalKeepsResult() {
        SyndromeEmbedder x = embedded();
        CHECKS.due("loadColumn(2, 1)", x.loadColumn(2, 1), BAD);
        CHECKS.due("loadColumn(0, 4)", x.loadColumn(0, 4), BAD);
        CHECKS.due("loadColumn(0, -1)", x.loadColumn(0, -1), BAD);
        CHECKS.due("columnBits(0)", x.columnBits(0), 1);
        CHECKS.due("columnBits(7)", x.columnBits(7), BAD);
        CHECKS.due("totalCost() after refusals", x.totalCost(), 4);
    }
}
