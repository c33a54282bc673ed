/** Promises 6 and 10: addMessage and messageBit. */
public final class MessageTest {
    private static final int OK = SyndromeEmbedder.OK;
    private static final int BAD = SyndromeEmbedder.BAD;
    private static final int FULL = SyndromeEmbedder.FULL;
    private static final int[] LIMITS = {10, 5, 3};
    private static final int[] BITS = {1, 0, 1, 1, 0, 0, 1, 0, 1, 1};
    private static final int[] NO_BITS = {Integer.MIN_VALUE, -6, -1, 2, 3, 9, Integer.MAX_VALUE};
    private static final Checks CHECKS = new Checks();

    public static void main(String[] args) {
        for (int w = 1; w <= 3; w++) {
            checkFilling(w, LIMITS[w - 1]);
            checkLimitWithFullCover(w, LIMITS[w - 1]);
        }
        checkAddDropsResult();
        checkRefusalsKeepResult();
        CHECKS.end();
    }

    private static void checkMessage(String when, SyndromeEmbedder x, int count) {
        for (int row = 0; row < count; row++) {
            CHECKS.due(when + ": messageBit(" + row + ")", x.messageBit(row), BITS[row]);
        }
        int[] outside = {Integer.MIN_VALUE, -1, count, count + 1, 10, 32, Integer.MAX_VALUE};
        for (int row : outside) {
            CHECKS.due(when + ": messageBit(" + row + ")", x.messageBit(row), BAD);
        }
    }

    private static void checkFilling(int w, int limit) {
        SyndromeEmbedder x = new SyndromeEmbedder(3, w);
        for (int count = 0; count < limit; count++) {
            String when = "w " + w + ", k " + count;
            checkMessage(when, x, count);
            for (int bit : NO_BITS) {
                CHECKS.due(when + ": addMessage(" + bit + ")", x.addMessage(bit), BAD);
            }
            checkMessage(when + " after BAD", x, count);
            CHECKS.due(when + ": addMessage", x.addMessage(BITS[count]), OK);
        }
        checkMessage("w " + w + ", full", x, limit);
        CHECKS.due("w " + w + ": addMessage(0) at the limit", x.addMessage(0), FULL);
        CHECKS.due("w " + w + ": addMessage(1) at the limit", x.addMessage(1), FULL);
        for (int bit : NO_BITS) {
            CHECKS.due("w " + w + ": addMessage(" + bit + ") at the limit", x.addMessage(bit), FULL);
        }
        checkMessage("w " + w + " after FULL", x, limit);
        CHECKS.due("coverBit(0)", x.coverBit(0), BAD);
        CHECKS.due("columnBits(0)", x.columnBits(0), 1);
    }

    private static void checkLimitWithFullCover(int w, int limit) {
        SyndromeEmbedder x = new SyndromeEmbedder(1, w);
        for (int i = 0; i < 10; i++) {
            CHECKS.due("addCover", x.addCover(1, i), OK);
        }
        for (int row = 0; row < limit; row++) {
            CHECKS.due("w " + w + ": addMessage beside a full cover", x.addMessage(BITS[row]), OK);
        }
        CHECKS.due("w " + w + ": addMessage beside a full cover", x.addMessage(1), FULL);
        CHECKS.due("coverCost(9)", x.coverCost(9), 9);
    }

    private static SyndromeEmbedder embedded() {
        SyndromeEmbedder x = new SyndromeEmbedder(1, 3);
        for (int i = 0; i < 9; i++) {
            x.addCover(0, i + 1);
        }
        x.addMessage(1);
        x.addMessage(0);
        x.addMessage(1);
        CHECKS.due("embed()", x.embed(), OK);
        CHECKS.due("totalCost()", x.totalCost(), 8);
        return x;
    }

    private static void checkAddDropsResult() {
        SyndromeEmbedder x = new SyndromeEmbedder(1, 1);
        x.addCover(1, 4);
        x.addMessage(1);
        CHECKS.due("embed()", x.embed(), OK);
        CHECKS.due("addMessage(1)", x.addMessage(1), OK);
        CHECKS.due("totalCost() after addMessage", x.totalCost(), SyndromeEmbedder.NO_RESULT);
        CHECKS.due("embed() after addMessage", x.embed(), SyndromeEmbedder.NOT_READY);
        CHECKS.due("coverBit(0)", x.coverBit(0), 1);
        CHECKS.due("coverCost(0)", x.coverCost(0), 4);
        CHECKS.due("coverBit(1)", x.coverBit(1), BAD);
    }

    private static void checkRefusalsKeepResult() {
        SyndromeEmbedder x = embedded();
        CHECKS.due("flip(0)", x.flip(0), OK);
        CHECKS.due("messageBit(0) after flip", x.messageBit(0), 1);
        CHECKS.due("extractBit(0) after flip", x.extractBit(0), 0);
        CHECKS.due("addMessage(0)", x.addMessage(0), FULL);
        CHECKS.due("addMessage(2)", x.addMessage(2), FULL);
        CHECKS.due("messageBit(3)", x.messageBit(3), BAD);
        CHECKS.due("totalCost() after refusals", x.totalCost(), 8);
        CHECKS.due("extractBit(0) after refusals", x.extractBit(0), 0);
        SyndromeEmbedder y = new SyndromeEmbedder(1, 1);
        y.addCover(1, 4);
        y.addMessage(0);
        y.embed();
        CHECKS.due("addMessage(2) below the limit", y.addMessage(2), BAD);
        CHECKS.due("totalCost() after BAD", y.totalCost(), 4);
    }
}
