/** Promises 11 to 17: every submatrix, message and mix of costs of a small size, compared with the model. */
public final class SmallCasesTest {
    private static final int[] COSTS = {SyndromeEmbedder.WET, 0, 1, 2};
    private static final Checks CHECKS = new Checks();

    public static void main(String[] args) {
        compareAll(2, 2, 2);
        compareAll(2, 1, 4);
        compareAll(3, 3, 1);
        compareAll(1, 2, 2);
        CHECKS.end();
    }

    private static void compareAll(int h, int w, int k) {
        int n = w * k;
        for (int submatrix = 0; submatrix < 1 << h * w; submatrix++) {
            for (int message = 0; message < 1 << k; message++) {
                for (int costs = 0; costs < 1 << 2 * n; costs++) {
                    // A cover that goes its own way through the bits, so that every one comes up often.
                    compare(h, w, k, submatrix, message, costs, (costs * 5 + submatrix * 3 + message) % (1 << n));
                }
            }
        }
    }

    private static void compare(int h, int w, int k, int submatrix, int message, int costs, int cover) {
        SyndromeEmbedder x = new SyndromeEmbedder(h, w);
        Model model = new Model(h, w);
        for (int column = 0; column < w; column++) {
            int bits = submatrix >> h * column & (1 << h) - 1;
            x.loadColumn(column, bits);
            model.loadColumn(column, bits);
        }
        for (int row = 0; row < k; row++) {
            x.addMessage(message >> row & 1);
            model.addMessage(message >> row & 1);
        }
        for (int i = 0; i < w * k; i++) {
            x.addCover(cover >> i & 1, COSTS[costs >> 2 * i & 3]);
            model.addCover(cover >> i & 1, COSTS[costs >> 2 * i & 3]);
        }
        String when = "h " + h + ", w " + w + ", k " + k + ", submatrix " + submatrix + ", message " + message
                + ", costs " + costs + ", cover " + cover + ": ";
        compareForced(when, x, model, w * k);
        CHECKS.due(when + "embed()", x.embed(), model.embed());
        CHECKS.due(when + "totalCost()", x.totalCost(), model.totalCost());
        CHECKS.due(when + "optimalCount()", x.optimalCount(), model.optimalCount());
        for (int i = 0; i < w * k; i++) {
            CHECKS.due(when + "alteredBit", x.alteredBit(i), model.alteredBit(i));
            CHECKS.due(when + "flip", x.flip(i), model.flip(i));
            for (int row = 0; row < k; row++) {
                CHECKS.due(when + "extractBit", x.extractBit(row), model.extractBit(row));
            }
        }
    }

    private static void compareForced(String when, SyndromeEmbedder x, Model model, int n) {
        for (int i = 0; i < n; i++) {
            CHECKS.due(when + "forcedCost to 0", x.forcedCost(i, 0), model.forcedCost(i, 0));
            CHECKS.due(when + "forcedCost to 1", x.forcedCost(i, 1), model.forcedCost(i, 1));
        }
    }
}
