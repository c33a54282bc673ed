/** Promise 17: forcedCost. */
public final class ForcedCostTest {
    private static final int OK = SyndromeEmbedder.OK;
    private static final int BAD = SyndromeEmbedder.BAD;
    private static final int WET = SyndromeEmbedder.WET;
    private static final int NOT_READY = SyndromeEmbedder.NOT_READY;
    private static final int NO_SOLUTION = SyndromeEmbedder.NO_SOLUTION;
    private static final int[] FAR = {Integer.MIN_VALUE, -32, -1, 4, 10, 32, Integer.MAX_VALUE};
    private static final Checks CHECKS = new Checks();

    public static void main(String[] args) {
        checkNotReady();
        checkExample();
        checkWet();
        checkCoverOfOnes();
        checkWrongArguments();
        checkChangesNothing();
        CHECKS.end();
    }

    private static SyndromeEmbedder example() {
        SyndromeEmbedder x = new SyndromeEmbedder(2, 2);
        x.loadColumn(0, 3);
        x.loadColumn(1, 2);
        x.addCover(0, 5);
        x.addCover(0, 2);
        x.addCover(0, 2);
        x.addCover(0, 0);
        x.addMessage(1);
        x.addMessage(0);
        return x;
    }

    private static void checkAll(String when, SyndromeEmbedder x, int... want) {
        for (int i = 0; i < want.length; i++) {
            int index = i / 2;
            int bit = i % 2;
            String call = when + ": forcedCost(" + index + ", " + bit + ")";
            CHECKS.due(call, x.forcedCost(index, bit), want[i]);
        }
    }

    private static void checkNotReady() {
        SyndromeEmbedder x = new SyndromeEmbedder(2, 2);
        for (int far : FAR) {
            CHECKS.due("forcedCost(" + far + ", 0) at the start", x.forcedCost(far, 0), NOT_READY);
            CHECKS.due("forcedCost(0, " + far + ") at the start", x.forcedCost(0, far), NOT_READY);
        }
        x.addCover(0, 1);
        x.addMessage(0);
        CHECKS.due("forcedCost(0, 0) with n 1, k 1, w 2", x.forcedCost(0, 0), NOT_READY);
        CHECKS.due("forcedCost(5, 5) with n 1, k 1, w 2", x.forcedCost(5, 5), NOT_READY);
        x.addCover(0, 1);
        CHECKS.due("forcedCost(0, 0) when ready", x.forcedCost(0, 0), 0);
        x.addCover(0, 1);
        CHECKS.due("forcedCost(0, 0) with n 3", x.forcedCost(0, 0), NOT_READY);
    }

    private static void checkExample() {
        // Row 0 needs element 0; row 1 then needs element 1 or 2 but not both; element 3 is free.
        SyndromeEmbedder x = example();
        checkAll("the example", x, NO_SOLUTION, 7, 7, 7, 7, 7, 7, 7);
        x.setCost(1, 3);
        x.setCost(3, 1000);
        checkAll("other costs", x, NO_SOLUTION, 7, 7, 8, 8, 7, 7, 1007);
    }

    private static void checkWet() {
        SyndromeEmbedder x = example();
        x.setCost(1, WET);
        checkAll("element 1 wet", x, NO_SOLUTION, 7, 7, NO_SOLUTION, NO_SOLUTION, 7, 7, 7);
        x.setCost(2, WET);
        // No solution at all is left: the bits as fed are refused as well.
        checkAll("elements 1 and 2 wet", x, NO_SOLUTION, NO_SOLUTION, NO_SOLUTION, NO_SOLUTION,
                NO_SOLUTION, NO_SOLUTION, NO_SOLUTION, NO_SOLUTION);
    }

    /** The argument is the bit's value, not whether it changes. */
    private static void checkCoverOfOnes() {
        SyndromeEmbedder x = new SyndromeEmbedder(1, 2);
        x.addCover(1, 4);
        x.addCover(1, 9);
        x.addMessage(0);
        checkAll("ones that fit", x, 13, 0, 13, 0);
        x.clear();
        x.addCover(1, 4);
        x.addCover(1, WET);
        x.addMessage(1);
        checkAll("ones, one wet", x, 4, NO_SOLUTION, NO_SOLUTION, 4);
    }

    private static void checkWrongArguments() {
        SyndromeEmbedder x = example();
        for (int far : FAR) {
            CHECKS.due("forcedCost(" + far + ", 0)", x.forcedCost(far, 0), BAD);
            CHECKS.due("forcedCost(" + far + ", 1)", x.forcedCost(far, 1), BAD);
            CHECKS.due("forcedCost(0, " + far + ")", x.forcedCost(0, far), BAD);
            CHECKS.due("forcedCost(1, " + far + ")", x.forcedCost(1, far), BAD);
        }
        CHECKS.due("forcedCost(0, 2)", x.forcedCost(0, 2), BAD);
        x.setCost(1, WET);
        x.setCost(2, WET);
        CHECKS.due("forcedCost(0, 2) without a solution", x.forcedCost(0, 2), BAD);
        CHECKS.due("forcedCost(4, 0) without a solution", x.forcedCost(4, 0), BAD);
    }

    private static void checkChangesNothing() {
        SyndromeEmbedder x = example();
        CHECKS.due("forcedCost(0, 1) before embed", x.forcedCost(0, 1), 7);
        CHECKS.due("totalCost() after forcedCost", x.totalCost(), SyndromeEmbedder.NO_RESULT);
        CHECKS.due("embed()", x.embed(), OK);
        x.flip(0);
        checkAll("after a flip", x, NO_SOLUTION, 7, 7, 7, 7, 7, 7, 7);
        CHECKS.due("forcedCost(0, 2)", x.forcedCost(0, 2), BAD);
        CHECKS.due("totalCost()", x.totalCost(), 7);
        CHECKS.due("optimalCount()", x.optimalCount(), 4);
        CHECKS.due("alteredBit(0)", x.alteredBit(0), 1);
        CHECKS.due("alteredBit(1)", x.alteredBit(1), 1);
        CHECKS.due("alteredBit(2)", x.alteredBit(2), 0);
        CHECKS.due("alteredBit(3)", x.alteredBit(3), 0);
        CHECKS.due("extractBit(0), still flipped", x.extractBit(0), 0);
        CHECKS.due("coverBit(0)", x.coverBit(0), 0);
        CHECKS.due("coverCost(0)", x.coverCost(0), 5);
    }
}
