/** Promises 4, 5, 8 and 9: addCover, setCost, coverBit and coverCost. */
public final class CoverTest {
    private static final int OK = SyndromeEmbedder.OK;
    private static final int BAD = SyndromeEmbedder.BAD;
    private static final int WET = SyndromeEmbedder.WET;
    private static final int[] NO_BITS = {Integer.MIN_VALUE, -2, -1, 2, 3, 10, Integer.MAX_VALUE};
    private static final int[] NO_COSTS = {Integer.MIN_VALUE, -1000, -3, -2, 1001, 2000, Integer.MAX_VALUE};
    private static final int[] BITS = {1, 0, 1, 1, 0, 0, 1, 0, 0, 1};
    private static final int[] COSTS = {0, WET, 1000, 1, 999, 7, WET, 0, 500, 1000};
    private static final Checks CHECKS = new Checks();

    public static void main(String[] args) {
        for (int w = 1; w <= 3; w++) {
            checkFilling(w);
        }
        checkWrongElements();
        checkSetCost();
        checkAddDropsResult();
        checkSetCostDropsResult();
        checkRefusalsKeepResult();
        checkBitsStayAsFed();
        CHECKS.end();
    }

    private static SyndromeEmbedder filled(int w, int count) {
        SyndromeEmbedder x = new SyndromeEmbedder(2, w);
        for (int i = 0; i < count; i++) {
            CHECKS.due("w " + w + ": addCover " + i, x.addCover(BITS[i], COSTS[i]), OK);
        }
        return x;
    }

    private static void checkCover(String when, SyndromeEmbedder x, int[] costs, int count) {
        for (int i = 0; i < count; i++) {
            CHECKS.due(when + ": coverBit(" + i + ")", x.coverBit(i), BITS[i]);
            CHECKS.due(when + ": coverCost(" + i + ")", x.coverCost(i), costs[i]);
        }
        int[] outside = {Integer.MIN_VALUE, -10, -1, count, count + 1, 10, 11, 32, Integer.MAX_VALUE};
        for (int index : outside) {
            CHECKS.due(when + ": coverBit(" + index + ")", x.coverBit(index), BAD);
            CHECKS.due(when + ": coverCost(" + index + ")", x.coverCost(index), BAD);
        }
    }

    private static void checkFilling(int w) {
        for (int count = 0; count <= 10; count++) {
            SyndromeEmbedder x = filled(w, count);
            checkCover("w " + w + ", n " + count, x, COSTS, count);
        }
        SyndromeEmbedder x = filled(w, 10);
        CHECKS.due("addCover(0, 0) at 10", x.addCover(0, 0), SyndromeEmbedder.FULL);
        CHECKS.due("addCover(2, 0) at 10", x.addCover(2, 0), SyndromeEmbedder.FULL);
        CHECKS.due("addCover(1, 1001) at 10", x.addCover(1, 1001), SyndromeEmbedder.FULL);
        CHECKS.due("addCover(min, max) at 10", x.addCover(Integer.MIN_VALUE, Integer.MAX_VALUE),
                SyndromeEmbedder.FULL);
        checkCover("w " + w + " after FULL", x, COSTS, 10);
        CHECKS.due("messageBit(0)", x.messageBit(0), BAD);
        CHECKS.due("columnBits(0)", x.columnBits(0), 1);
    }

    private static void checkWrongElements() {
        for (int count = 0; count < 10; count++) {
            SyndromeEmbedder x = filled(1, count);
            for (int bit : NO_BITS) {
                CHECKS.due("addCover(" + bit + ", 3)", x.addCover(bit, 3), BAD);
                CHECKS.due("addCover(" + bit + ", WET)", x.addCover(bit, WET), BAD);
            }
            for (int cost : NO_COSTS) {
                CHECKS.due("addCover(0, " + cost + ")", x.addCover(0, cost), BAD);
                CHECKS.due("addCover(1, " + cost + ")", x.addCover(1, cost), BAD);
                CHECKS.due("addCover(2, " + cost + ")", x.addCover(2, cost), BAD);
            }
            checkCover("after BAD at n " + count, x, COSTS, count);
        }
    }

    private static void checkSetCost() {
        for (int count = 0; count <= 10; count++) {
            SyndromeEmbedder x = filled(1, count);
            int[] costs = COSTS.clone();
            int[] outside = {Integer.MIN_VALUE, -1, count, count + 1, 10, 100, Integer.MAX_VALUE};
            for (int index : outside) {
                CHECKS.due("n " + count + ": setCost(" + index + ", 1)", x.setCost(index, 1), BAD);
            }
            for (int i = 0; i < count; i++) {
                for (int cost : NO_COSTS) {
                    CHECKS.due("setCost(" + i + ", " + cost + ")", x.setCost(i, cost), BAD);
                }
                checkCover("after setCost BAD", x, costs, count);
                int[] news = {WET, 0, 1000, WET, 1, 999};
                for (int cost : news) {
                    CHECKS.due("setCost(" + i + ", " + cost + ")", x.setCost(i, cost), OK);
                    costs[i] = cost;
                    checkCover("after setCost(" + i + ", " + cost + ")", x, costs, count);
                }
            }
        }
    }

    /** Ready at width 1 with the column 1: cover 1, 0, message 0, 0. */
    private static SyndromeEmbedder embedded() {
        SyndromeEmbedder x = new SyndromeEmbedder(1, 1);
        x.addCover(1, 6);
        x.addCover(0, WET);
        x.addMessage(0);
        x.addMessage(0);
        CHECKS.due("embed()", x.embed(), OK);
        CHECKS.due("totalCost()", x.totalCost(), 6);
        return x;
    }

    private static void checkAddDropsResult() {
        SyndromeEmbedder x = embedded();
        CHECKS.due("addCover(0, 3)", x.addCover(0, 3), OK);
        CHECKS.due("totalCost() after addCover", x.totalCost(), SyndromeEmbedder.NO_RESULT);
        CHECKS.due("embed() after addCover", x.embed(), SyndromeEmbedder.NOT_READY);
        CHECKS.due("messageBit(1)", x.messageBit(1), 0);
        CHECKS.due("messageBit(2)", x.messageBit(2), BAD);
        CHECKS.due("columnBits(0)", x.columnBits(0), 1);
    }

    private static void checkSetCostDropsResult() {
        SyndromeEmbedder x = embedded();
        CHECKS.due("setCost(0, 6), the same value", x.setCost(0, 6), OK);
        CHECKS.due("totalCost() after setCost", x.totalCost(), SyndromeEmbedder.NO_RESULT);
        CHECKS.due("embed() after setCost", x.embed(), OK);
        CHECKS.due("setCost(0, 1000)", x.setCost(0, 1000), OK);
        CHECKS.due("optimalCount() after setCost", x.optimalCount(), SyndromeEmbedder.NO_RESULT);
        CHECKS.due("embed() at 1000", x.embed(), OK);
        CHECKS.due("totalCost() at 1000", x.totalCost(), 1000);
        CHECKS.due("setCost(0, WET)", x.setCost(0, WET), OK);
        CHECKS.due("embed() when wet", x.embed(), SyndromeEmbedder.NO_SOLUTION);
        CHECKS.due("setCost(0, 0)", x.setCost(0, 0), OK);
        CHECKS.due("embed() when dry again", x.embed(), OK);
        CHECKS.due("totalCost() when dry again", x.totalCost(), 0);
        CHECKS.due("coverBit(0)", x.coverBit(0), 1);
        CHECKS.due("messageBit(0)", x.messageBit(0), 0);
        CHECKS.due("columnBits(0)", x.columnBits(0), 1);
    }

    private static void checkRefusalsKeepResult() {
        SyndromeEmbedder x = embedded();
        CHECKS.due("flip(0)", x.flip(0), OK);
        CHECKS.due("addCover(2, 1)", x.addCover(2, 1), BAD);
        CHECKS.due("addCover(1, -2)", x.addCover(1, -2), BAD);
        CHECKS.due("setCost(2, 1)", x.setCost(2, 1), BAD);
        CHECKS.due("setCost(0, 1001)", x.setCost(0, 1001), BAD);
        CHECKS.due("coverBit(0)", x.coverBit(0), 1);
        CHECKS.due("coverCost(1)", x.coverCost(1), WET);
        CHECKS.due("coverBit(2)", x.coverBit(2), BAD);
        CHECKS.due("coverCost(2)", x.coverCost(2), BAD);
        CHECKS.due("totalCost() after refusals", x.totalCost(), 6);
        CHECKS.due("extractBit(0) after refusals", x.extractBit(0), 1);
        SyndromeEmbedder full = new SyndromeEmbedder(1, 1);
        for (int i = 0; i < 10; i++) {
            full.addCover(0, 1);
            full.addMessage(1);
        }
        CHECKS.due("embed() of 10", full.embed(), OK);
        CHECKS.due("addCover(0, 1) of 10", full.addCover(0, 1), SyndromeEmbedder.FULL);
        CHECKS.due("totalCost() after FULL", full.totalCost(), 10);
    }

    private static void checkBitsStayAsFed() {
        SyndromeEmbedder x = embedded();
        CHECKS.due("alteredBit(0)", x.alteredBit(0), 0);
        CHECKS.due("coverBit(0) after embed", x.coverBit(0), 1);
        x.flip(0);
        x.flip(1);
        CHECKS.due("coverBit(0) after flip", x.coverBit(0), 1);
        CHECKS.due("coverBit(1) after flip", x.coverBit(1), 0);
        CHECKS.due("coverCost(0) after flip", x.coverCost(0), 6);
    }
}
