/** Promise 1: the constructor and the start. */
public final class StartTest {
    private static final Checks CHECKS = new Checks();

    public static void main(String[] args) {
        int[] sizes = {Integer.MIN_VALUE, -4, -1, 0, 1, 2, 3, 4, 5, 6, 100, Integer.MAX_VALUE};
        for (int height : sizes) {
            for (int width : sizes) {
                checkSizes(height, width);
            }
        }
        checkStart();
        CHECKS.end();
    }

    private static void checkSizes(int height, int width) {
        String made = "new(" + height + ", " + width + "): ";
        int h = height < 1 ? 1 : height > 4 ? 4 : height;
        int w = width < 1 ? 1 : width > 3 ? 3 : width;
        SyndromeEmbedder x = new SyndromeEmbedder(height, width);
        for (int column = 0; column < w; column++) {
            CHECKS.due(made + "columnBits(" + column + ")", x.columnBits(column), 1);
        }
        CHECKS.due(made + "columnBits(w)", x.columnBits(w), SyndromeEmbedder.BAD);
        CHECKS.due(made + "columnBits(-1)", x.columnBits(-1), SyndromeEmbedder.BAD);
        CHECKS.due(made + "loadColumn(0, 2^h)", x.loadColumn(0, 1 << h), SyndromeEmbedder.BAD);
        CHECKS.due(made + "loadColumn(0, 2^h-1)", x.loadColumn(0, (1 << h) - 1), SyndromeEmbedder.OK);
        int limit = w == 1 ? 10 : w == 2 ? 5 : 3;
        for (int k = 0; k < limit; k++) {
            CHECKS.due(made + "addMessage " + k, x.addMessage(0), SyndromeEmbedder.OK);
        }
        CHECKS.due(made + "addMessage at the limit", x.addMessage(0), SyndromeEmbedder.FULL);
    }

    private static void checkStart() {
        SyndromeEmbedder x = new SyndromeEmbedder(2, 2);
        CHECKS.due("coverBit(0)", x.coverBit(0), SyndromeEmbedder.BAD);
        CHECKS.due("coverCost(0)", x.coverCost(0), SyndromeEmbedder.BAD);
        CHECKS.due("messageBit(0)", x.messageBit(0), SyndromeEmbedder.BAD);
        CHECKS.due("setCost(0, 0)", x.setCost(0, 0), SyndromeEmbedder.BAD);
        CHECKS.due("embed()", x.embed(), SyndromeEmbedder.NOT_READY);
        CHECKS.due("forcedCost(0, 0)", x.forcedCost(0, 0), SyndromeEmbedder.NOT_READY);
        CHECKS.due("totalCost()", x.totalCost(), SyndromeEmbedder.NO_RESULT);
        CHECKS.due("optimalCount()", x.optimalCount(), SyndromeEmbedder.NO_RESULT);
        CHECKS.due("alteredBit(0)", x.alteredBit(0), SyndromeEmbedder.NO_RESULT);
        CHECKS.due("flip(0)", x.flip(0), SyndromeEmbedder.NO_RESULT);
        CHECKS.due("extractBit(0)", x.extractBit(0), SyndromeEmbedder.NO_RESULT);
    }
}
