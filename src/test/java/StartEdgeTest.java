/** The edges of promise 1: the constructor and the start. */
public final class StartEdgeTest {
    private static final int OK = SyndromeEmbedder.OK;
    private static final int BAD = SyndromeEmbedder.BAD;
    private static final int NOT_READY = SyndromeEmbedder.NOT_READY;
    private static final int NO_RESULT = SyndromeEmbedder.NO_RESULT;
    private static final Checks CHECKS = new Checks();

    public static void main(String[] args) {
        anyTwoInts();
        heightOutOfRange();
        widthOutOfRange();
        heightAndWidthApart();
        columnsAreOne();
        listsAreEmpty();
        resultIsAbsent();
        notReady();
        CHECKS.end();
    }

    private static void anyTwoInts() {
        CHECKS.sentence("Promise 1", "SyndromeEmbedder(int height, int width) accepts any two ints.");
        for (int height : Ints.any()) {
            for (int width : Ints.any()) {
                CHECKS.due("new(" + height + ", " + width + ")", new SyndromeEmbedder(height, width).columnBits(0), 1);
            }
        }
    }

    private static int heightOf(SyndromeEmbedder x) {
        int h = 0;
        while (h < 31 && x.loadColumn(0, (1 << h + 1) - 1) == OK) {
            h++;
        }
        return h;
    }

    private static int widthOf(SyndromeEmbedder x) {
        int w = 0;
        while (w < 31 && x.columnBits(w) != BAD) {
            w++;
        }
        return w;
    }

    private static int messageLimitOf(SyndromeEmbedder x) {
        int k = 0;
        while (k < 31 && x.addMessage(1) == OK) {
            k++;
        }
        return k;
    }

    private static void heightOutOfRange() {
        CHECKS.sentence("Promise 1",
                "h is height, except that a value below 1 becomes 1 and a value above 4 becomes 4.");
        for (int height : Ints.outside(1, 4)) {
            int got = heightOf(new SyndromeEmbedder(height, 2));
            CHECKS.due("the height of new(" + height + ", 2)", got, height < 1 ? 1 : 4);
        }
        for (int height = 1; height <= 4; height++) {
            CHECKS.due("the height of new(" + height + ", 2)", heightOf(new SyndromeEmbedder(height, 2)), height);
        }
    }

    private static void widthOutOfRange() {
        CHECKS.sentence("Promise 1",
                "w is width, except that a value below 1 becomes 1 and a value above 3 becomes 3.");
        for (int width : Ints.outside(1, 3)) {
            SyndromeEmbedder x = new SyndromeEmbedder(2, width);
            CHECKS.due("the width of new(2, " + width + ")", widthOf(x), width < 1 ? 1 : 3);
            CHECKS.due("the message limit of new(2, " + width + ")", messageLimitOf(x), width < 1 ? 10 : 3);
        }
        int[] limits = {0, 10, 5, 3};
        for (int width = 1; width <= 3; width++) {
            SyndromeEmbedder x = new SyndromeEmbedder(2, width);
            CHECKS.due("the width of new(2, " + width + ")", widthOf(x), width);
            CHECKS.due("the message limit of new(2, " + width + ")", messageLimitOf(x), limits[width]);
        }
    }

    private static void heightAndWidthApart() {
        CHECKS.sentence("Promise 1", "h is height, .. w is width");
        for (int height : Ints.any()) {
            for (int width : Ints.any()) {
                SyndromeEmbedder x = new SyndromeEmbedder(height, width);
                String made = "new(" + height + ", " + width + ")";
                CHECKS.due("the width of " + made, widthOf(x), Math.max(1, Math.min(3, width)));
                CHECKS.due("the height of " + made, heightOf(x), Math.max(1, Math.min(4, height)));
            }
        }
    }

    private static void columnsAreOne() {
        CHECKS.sentence("Promise 1", "At the start each of the w columns is 1");
        for (int height = 0; height <= 5; height++) {
            for (int width = 0; width <= 4; width++) {
                SyndromeEmbedder x = new SyndromeEmbedder(height, width);
                int w = Math.max(1, Math.min(3, width));
                for (int column = 0; column < 4; column++) {
                    String call = "new(" + height + ", " + width + ").columnBits(" + column + ")";
                    CHECKS.due(call, x.columnBits(column), column < w ? 1 : BAD);
                }
            }
        }
    }

    private static void listsAreEmpty() {
        CHECKS.sentence("Promise 1", "the cover and the message are empty (n = 0, k = 0)");
        for (int width = 1; width <= 3; width++) {
            for (int index : Ints.any()) {
                SyndromeEmbedder x = new SyndromeEmbedder(4, width);
                CHECKS.due("coverBit(" + index + ")", x.coverBit(index), BAD);
                CHECKS.due("coverCost(" + index + ")", x.coverCost(index), BAD);
                CHECKS.due("messageBit(" + index + ")", x.messageBit(index), BAD);
                CHECKS.due("setCost(" + index + ", 0)", x.setCost(index, 0), BAD);
            }
        }
    }

    private static void resultIsAbsent() {
        CHECKS.sentence("Promise 1", "and the result is absent.");
        for (int width = 1; width <= 3; width++) {
            SyndromeEmbedder x = new SyndromeEmbedder(3, width);
            CHECKS.due("totalCost()", x.totalCost(), NO_RESULT);
            CHECKS.due("optimalCount()", x.optimalCount(), NO_RESULT);
            for (int index : Ints.any()) {
                CHECKS.due("alteredBit(" + index + ")", x.alteredBit(index), NO_RESULT);
                CHECKS.due("flip(" + index + ")", x.flip(index), NO_RESULT);
                CHECKS.due("extractBit(" + index + ")", x.extractBit(index), NO_RESULT);
            }
        }
    }

    private static void notReady() {
        CHECKS.sentence("Promise 1", "The object is therefore not ready.");
        for (int height = 0; height <= 5; height++) {
            for (int width = 0; width <= 4; width++) {
                SyndromeEmbedder x = new SyndromeEmbedder(height, width);
                CHECKS.due("forcedCost(0, 0)", x.forcedCost(0, 0), NOT_READY);
                CHECKS.due("embed()", x.embed(), NOT_READY);
                CHECKS.due("totalCost() after embed", x.totalCost(), NO_RESULT);
            }
        }
    }
}
