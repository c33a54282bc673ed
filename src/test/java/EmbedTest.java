/** Promises 11 to 14: embed, totalCost, optimalCount and alteredBit. */
public final class EmbedTest {
    private static final int OK = SyndromeEmbedder.OK;
    private static final int BAD = SyndromeEmbedder.BAD;
    private static final int WET = SyndromeEmbedder.WET;
    private static final int NOT_READY = SyndromeEmbedder.NOT_READY;
    private static final int NO_SOLUTION = SyndromeEmbedder.NO_SOLUTION;
    private static final int NO_RESULT = SyndromeEmbedder.NO_RESULT;
    private static final Checks CHECKS = new Checks();

    public static void main(String[] args) {
        checkExample();
        checkReadiness();
        checkNoSolution();
        checkWet();
        checkFreeChangesCount();
        checkGreatestCount();
        checkTieByChangeNumber();
        checkCostBeforeChangeNumber();
        checkRowsCutAway();
        checkSecondEmbed();
        checkReadersChangeNothing();
        CHECKS.end();
    }

    private static void feed(SyndromeEmbedder x, int[] bits, int[] costs, int... message) {
        for (int i = 0; i < bits.length; i++) {
            CHECKS.due("addCover " + i, x.addCover(bits[i], costs[i]), OK);
        }
        for (int row = 0; row < message.length; row++) {
            CHECKS.due("addMessage " + row, x.addMessage(message[row]), OK);
        }
    }

    private static void checkResult(String when, SyndromeEmbedder x, int cost, int count, int... altered) {
        CHECKS.due(when + ": totalCost()", x.totalCost(), cost);
        CHECKS.due(when + ": optimalCount()", x.optimalCount(), count);
        for (int i = 0; i < altered.length; i++) {
            CHECKS.due(when + ": alteredBit(" + i + ")", x.alteredBit(i), altered[i]);
        }
        int[] outside = {Integer.MIN_VALUE, -1, altered.length, altered.length + 1, 32, Integer.MAX_VALUE};
        for (int index : outside) {
            CHECKS.due(when + ": alteredBit(" + index + ")", x.alteredBit(index), BAD);
        }
    }

    private static void checkNoResult(String when, SyndromeEmbedder x) {
        CHECKS.due(when + ": totalCost()", x.totalCost(), NO_RESULT);
        CHECKS.due(when + ": optimalCount()", x.optimalCount(), NO_RESULT);
        int[] indexes = {Integer.MIN_VALUE, -1, 0, 1, 10, Integer.MAX_VALUE};
        for (int index : indexes) {
            CHECKS.due(when + ": alteredBit(" + index + ")", x.alteredBit(index), NO_RESULT);
            CHECKS.due(when + ": flip(" + index + ")", x.flip(index), NO_RESULT);
            CHECKS.due(when + ": extractBit(" + index + ")", x.extractBit(index), NO_RESULT);
        }
    }

    private static SyndromeEmbedder example() {
        SyndromeEmbedder x = new SyndromeEmbedder(2, 2);
        x.loadColumn(0, 3);
        x.loadColumn(1, 2);
        feed(x, new int[] {0, 0, 0, 0}, new int[] {5, 2, 2, 0}, 1, 0);
        return x;
    }

    private static void checkExample() {
        SyndromeEmbedder x = example();
        checkNoResult("the example before embed", x);
        CHECKS.due("the example: embed()", x.embed(), OK);
        checkResult("the example", x, 7, 4, 1, 1, 0, 0);
    }

    private static void checkReadiness() {
        for (int w = 1; w <= 3; w++) {
            int limit = 10 / w;
            for (int k = 0; k <= limit; k++) {
                for (int n = 0; n <= 10; n++) {
                    SyndromeEmbedder x = new SyndromeEmbedder(1, w);
                    feed(x, new int[n], new int[n], new int[k]);
                    boolean ready = k >= 1 && n == w * k;
                    String when = "w " + w + ", k " + k + ", n " + n;
                    CHECKS.due(when + ": embed()", x.embed(), ready ? OK : NOT_READY);
                    if (!ready) {
                        checkNoResult(when, x);
                    }
                }
            }
        }
    }

    private static void checkNoSolution() {
        SyndromeEmbedder x = new SyndromeEmbedder(2, 1);
        x.loadColumn(0, 0);
        feed(x, new int[] {1, 1}, new int[] {1, 1}, 0, 1);
        CHECKS.due("zero column: embed()", x.embed(), NO_SOLUTION);
        checkNoResult("zero column", x);
        CHECKS.due("coverBit(0)", x.coverBit(0), 1);
        CHECKS.due("coverCost(1)", x.coverCost(1), 1);
        CHECKS.due("messageBit(1)", x.messageBit(1), 1);
        CHECKS.due("columnBits(0)", x.columnBits(0), 0);
        CHECKS.due("zero column again: embed()", x.embed(), NO_SOLUTION);
        x.loadColumn(0, 1);
        CHECKS.due("with column 1: embed()", x.embed(), OK);
        checkResult("with column 1", x, 1, 1, 0, 1);
    }

    private static void checkWet() {
        SyndromeEmbedder x = new SyndromeEmbedder(1, 2);
        feed(x, new int[] {0, 1}, new int[] {WET, 1000}, 0);
        CHECKS.due("one wet: embed()", x.embed(), OK);
        checkResult("one wet", x, 1000, 1, 0, 0);
        x.setCost(1, WET);
        CHECKS.due("both wet: embed()", x.embed(), NO_SOLUTION);
        checkNoResult("both wet", x);
        x.setCost(0, 0);
        CHECKS.due("the other wet: embed()", x.embed(), OK);
        checkResult("the other wet", x, 0, 1, 1, 1);
        SyndromeEmbedder y = new SyndromeEmbedder(1, 1);
        feed(y, new int[] {1, 0}, new int[] {WET, WET}, 1, 0);
        CHECKS.due("wet and right as it is: embed()", y.embed(), OK);
        checkResult("wet and right as it is", y, 0, 1, 1, 0);
    }

    private static void checkFreeChangesCount() {
        SyndromeEmbedder x = new SyndromeEmbedder(1, 3);
        x.loadColumn(1, 0);
        feed(x, new int[] {1, 1, 0}, new int[] {0, 0, 0}, 1);
        CHECKS.due("free changes: embed()", x.embed(), OK);
        checkResult("free changes", x, 0, 4, 1, 1, 0);
        SyndromeEmbedder y = new SyndromeEmbedder(1, 3);
        y.loadColumn(1, 0);
        feed(y, new int[] {1, 1, 0}, new int[] {0, 0, 0}, 0);
        CHECKS.due("free changes needed: embed()", y.embed(), OK);
        checkResult("free changes needed", y, 0, 4, 0, 1, 0);
    }

    private static void checkGreatestCount() {
        SyndromeEmbedder x = new SyndromeEmbedder(1, 1);
        x.loadColumn(0, 0);
        int[] bits = {1, 0, 1, 0, 1, 0, 1, 0, 1, 0};
        feed(x, bits, new int[10], new int[10]);
        CHECKS.due("all free: embed()", x.embed(), OK);
        checkResult("all free", x, 0, 1024, bits);
    }

    private static void checkTieByChangeNumber() {
        SyndromeEmbedder x = new SyndromeEmbedder(1, 3);
        feed(x, new int[] {1, 1, 0}, new int[] {2, 1, 1}, 1);
        CHECKS.due("tie of 2 and 4: embed()", x.embed(), OK);
        checkResult("tie of 2 and 4", x, 1, 2, 1, 0, 0);
        SyndromeEmbedder y = new SyndromeEmbedder(2, 3);
        y.loadColumn(0, 1);
        y.loadColumn(1, 2);
        y.loadColumn(2, 3);
        feed(y, new int[6], new int[] {1, 1, 2, 9, 9, 9}, 1, 1);
        // Change number 3 makes more changes than 4 does, and is the lesser one all the same.
        CHECKS.due("tie of 3 and 4: embed()", y.embed(), OK);
        checkResult("tie of 3 and 4", y, 2, 2, 1, 1, 0, 0, 0, 0);
        SyndromeEmbedder z = new SyndromeEmbedder(1, 2);
        // The lesser change number goes against the lesser altered vector here.
        feed(z, new int[] {0, 1}, new int[] {3, 3}, 0);
        CHECKS.due("tie of 1 and 2: embed()", z.embed(), OK);
        checkResult("tie of 1 and 2", z, 3, 2, 1, 1);
    }

    private static void checkCostBeforeChangeNumber() {
        SyndromeEmbedder x = new SyndromeEmbedder(1, 3);
        feed(x, new int[] {0, 0, 0}, new int[] {1000, 999, 998}, 1);
        CHECKS.due("the last is cheapest: embed()", x.embed(), OK);
        checkResult("the last is cheapest", x, 998, 1, 0, 0, 1);
    }

    private static void checkRowsCutAway() {
        SyndromeEmbedder x = new SyndromeEmbedder(4, 1);
        x.loadColumn(0, 15);
        feed(x, new int[] {0, 0}, new int[] {4, 8}, 1, 0);
        CHECKS.due("rows cut away: embed()", x.embed(), OK);
        checkResult("rows cut away", x, 12, 1, 1, 1);
        SyndromeEmbedder y = new SyndromeEmbedder(4, 1);
        y.loadColumn(0, 14);
        feed(y, new int[] {1}, new int[] {4}, 1);
        CHECKS.due("all rows cut away: embed()", y.embed(), NO_SOLUTION);
        SyndromeEmbedder z = new SyndromeEmbedder(4, 1);
        z.loadColumn(0, 14);
        feed(z, new int[] {1}, new int[] {4}, 0);
        CHECKS.due("all rows cut away, message 0: embed()", z.embed(), OK);
        checkResult("all rows cut away, message 0", z, 0, 1, 1);
    }

    private static void checkSecondEmbed() {
        SyndromeEmbedder x = example();
        x.embed();
        x.flip(0);
        CHECKS.due("extractBit(0) after flip", x.extractBit(0), 0);
        CHECKS.due("second embed()", x.embed(), OK);
        checkResult("second embed", x, 7, 4, 1, 1, 0, 0);
        CHECKS.due("extractBit(0) after the second embed", x.extractBit(0), 1);
        CHECKS.due("extractBit(1) after the second embed", x.extractBit(1), 0);
        x.setCost(3, 1);
        CHECKS.due("third embed()", x.embed(), OK);
        checkResult("third embed", x, 7, 2, 1, 1, 0, 0);
    }

    private static void checkReadersChangeNothing() {
        SyndromeEmbedder x = example();
        x.embed();
        for (int round = 0; round < 2; round++) {
            checkResult("round " + round, x, 7, 4, 1, 1, 0, 0);
            for (int i = 0; i < 4; i++) {
                CHECKS.due("coverBit(" + i + ")", x.coverBit(i), 0);
                CHECKS.due("flip(" + i + ")", x.flip(i), OK);
            }
        }
        CHECKS.due("coverCost(0)", x.coverCost(0), 5);
        CHECKS.due("messageBit(0)", x.messageBit(0), 1);
        CHECKS.due("columnBits(0)", x.columnBits(0), 3);
        CHECKS.due("columnBits(1)", x.columnBits(1), 2);
    }
}
