/** The edge of the term "Arguments": the greatest cost, change number and count that there can be. */
public final class LimitEdgeTest {
    private static final int OK = SyndromeEmbedder.OK;
    private static final int WET = SyndromeEmbedder.WET;
    private static final String WORDS = "With the ranges above, the cost of a solution never exceeds 10000, a change "
            + "number never exceeds 1023, and an optimal count never exceeds 1024, so no wrap-around of arithmetic "
            + "shows in any answer.";
    private static final Checks CHECKS = new Checks();

    public static void main(String[] args) {
        CHECKS.sentence("Terms, Arguments, the cost", WORDS);
        greatestCost();
        greatestForcedCost();
        CHECKS.sentence("Terms, Arguments, the change number", WORDS);
        greatestChangeNumber();
        lastElementAlone();
        CHECKS.sentence("Terms, Arguments, the optimal count", WORDS);
        greatestCount();
        CHECKS.end();
    }

    private static void greatestCost() {
        for (int n = 1; n <= 10; n++) {
            SyndromeEmbedder x = new SyndromeEmbedder(4, 1);
            for (int i = 0; i < n; i++) {
                x.addCover(0, 1000);
                x.addMessage(1);
            }
            CHECKS.due("n " + n + ": embed()", x.embed(), OK);
            CHECKS.due("n " + n + ": totalCost()", x.totalCost(), 1000 * n);
            CHECKS.due("n " + n + ": optimalCount()", x.optimalCount(), 1);
        }
    }

    private static void greatestForcedCost() {
        SyndromeEmbedder x = new SyndromeEmbedder(1, 1);
        for (int i = 0; i < 10; i++) {
            x.addCover(1, 1000);
            x.addMessage(0);
        }
        for (int i = 0; i < 10; i++) {
            CHECKS.due("forcedCost(" + i + ", 0)", x.forcedCost(i, 0), 10000);
            CHECKS.due("forcedCost(" + i + ", 1)", x.forcedCost(i, 1), SyndromeEmbedder.NO_SOLUTION);
        }
    }

    private static void greatestChangeNumber() {
        for (int pattern = 0; pattern < 1024; pattern += 33) {
            SyndromeEmbedder x = new SyndromeEmbedder(1, 1);
            for (int i = 0; i < 10; i++) {
                x.addCover(pattern >> i & 1, i);
                x.addMessage(1 - (pattern >> i & 1));
            }
            CHECKS.due("cover " + pattern + ": embed()", x.embed(), OK);
            for (int i = 0; i < 10; i++) {
                CHECKS.due("cover " + pattern + ": alteredBit(" + i + ")", x.alteredBit(i), 1 - (pattern >> i & 1));
            }
        }
    }

    /** Element 9 against 8: the change numbers 512 and 256. */
    private static void lastElementAlone() {
        int[][] costs = {{5, 5}, {5, 4}, {4, 5}, {WET, 1000}, {1000, WET}, {0, 0}};
        int[] due = {8, 9, 8, 9, 8, 8};
        int[] counts = {2, 1, 1, 1, 1, 2};
        for (int number = 0; number < costs.length; number++) {
            SyndromeEmbedder x = new SyndromeEmbedder(1, 2);
            for (int i = 0; i < 8; i++) {
                x.addCover(i & 1, WET);
            }
            x.addCover(0, costs[number][0]);
            x.addCover(1, costs[number][1]);
            for (int row = 0; row < 5; row++) {
                x.addMessage(row == 4 ? 0 : 1);
            }
            String when = "costs " + costs[number][0] + " and " + costs[number][1];
            CHECKS.due(when + ": embed()", x.embed(), OK);
            CHECKS.due(when + ": alteredBit(8)", x.alteredBit(8), due[number] == 8 ? 1 : 0);
            CHECKS.due(when + ": alteredBit(9)", x.alteredBit(9), due[number] == 9 ? 0 : 1);
            CHECKS.due(when + ": optimalCount()", x.optimalCount(), counts[number]);
        }
    }

    private static void greatestCount() {
        for (int dry = 0; dry <= 10; dry++) {
            SyndromeEmbedder x = new SyndromeEmbedder(4, 1);
            x.loadColumn(0, 0);
            for (int i = 0; i < 10; i++) {
                x.addCover(i & 1, i < dry ? 0 : i % 2 == 0 ? 1000 : WET);
                x.addMessage(0);
            }
            CHECKS.due(dry + " free: embed()", x.embed(), OK);
            CHECKS.due(dry + " free: optimalCount()", x.optimalCount(), 1 << dry);
            CHECKS.due(dry + " free: totalCost()", x.totalCost(), 0);
            for (int i = 0; i < 10; i++) {
                CHECKS.due(dry + " free: alteredBit(" + i + ")", x.alteredBit(i), i & 1);
            }
        }
    }
}
