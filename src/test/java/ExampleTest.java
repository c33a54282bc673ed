import java.util.ArrayList;
import java.util.List;

/** The example in promise 11: every call that it needs, and everything that it tells. */
public final class ExampleTest {
    private static final int OK = SyndromeEmbedder.OK;
    private static final int[] COSTS = {5, 2, 2, 0};
    private static final int[] MESSAGE = {1, 0};
    private static final int[] ALTERED = {1, 1, 0, 0};
    private static final Checks CHECKS = new Checks();

    public static void main(String[] args) {
        rowsOfTheMatrix();
        result();
        solutionsOfLeastCost();
        CHECKS.end();
    }

    private static SyndromeEmbedder embedded() {
        SyndromeEmbedder x = new SyndromeEmbedder(2, 2);
        CHECKS.due("loadColumn(0, 3)", x.loadColumn(0, 3), OK);
        CHECKS.due("loadColumn(1, 2)", x.loadColumn(1, 2), OK);
        for (int cost : COSTS) {
            CHECKS.due("addCover(0, " + cost + ")", x.addCover(0, cost), OK);
        }
        for (int bit : MESSAGE) {
            CHECKS.due("addMessage(" + bit + ")", x.addMessage(bit), OK);
        }
        CHECKS.due("embed()", x.embed(), OK);
        return x;
    }

    /** Flips until the received vector is this one; the cover is all 0, so it is a change number as well. */
    private static void receive(SyndromeEmbedder x, int vector) {
        for (int i = 0; i < ALTERED.length; i++) {
            if (ALTERED[i] != (vector >> i & 1)) {
                CHECKS.due("flip(" + i + ")", x.flip(i), OK);
            }
        }
    }

    private static void rowsOfTheMatrix() {
        CHECKS.sentence("Promise 11", "Row 0 of H is 1 0 0 0 and row 1 is 1 1 1 0.");
        int[][] rows = {{1, 0, 0, 0}, {1, 1, 1, 0}};
        for (int i = 0; i < 4; i++) {
            SyndromeEmbedder x = embedded();
            receive(x, 1 << i);
            for (int r = 0; r < 2; r++) {
                CHECKS.due("received only element " + i + ": extractBit(" + r + ")", x.extractBit(r), rows[r][i]);
            }
        }
    }

    private static void result() {
        CHECKS.sentence("Promise 11", "The least cost is 7. Four solutions have it .., so the optimal count is 4 and "
                + "the altered vector is 1, 1, 0, 0.");
        SyndromeEmbedder x = embedded();
        CHECKS.due("totalCost()", x.totalCost(), 7);
        CHECKS.due("optimalCount()", x.optimalCount(), 4);
        for (int i = 0; i < 4; i++) {
            CHECKS.due("alteredBit(" + i + ")", x.alteredBit(i), ALTERED[i]);
        }
        for (int row = 0; row < 2; row++) {
            CHECKS.due("extractBit(" + row + ")", x.extractBit(row), MESSAGE[row]);
        }
    }

    private static void solutionsOfLeastCost() {
        CHECKS.sentence("Promise 11", "Four solutions have it, with change numbers 3, 5, 11 and 13");
        List<Integer> numbers = new ArrayList<>();
        for (int change = 0; change < 16; change++) {
            SyndromeEmbedder x = embedded();
            receive(x, change);
            boolean solution = x.extractBit(0) == MESSAGE[0] && x.extractBit(1) == MESSAGE[1];
            int cost = costOf(change);
            CHECKS.holds("change " + change + " gives no cheaper solution", !solution || cost >= 7);
            if (solution && cost == 7) {
                numbers.add(change);
            }
        }
        CHECKS.holds("the change numbers are 3, 5, 11 and 13, not " + numbers, numbers.equals(List.of(3, 5, 11, 13)));
    }

    private static int costOf(int change) {
        int cost = 0;
        for (int i = 0; i < COSTS.length; i++) {
            cost += (change >> i & 1) * COSTS[i];
        }
        return cost;
    }
}
