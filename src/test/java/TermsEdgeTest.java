/** The edges of the terms, but for "Refusals" and "Arguments", which RefusalEdgeTest and LimitEdgeTest have. */
public final class TermsEdgeTest {
    private static final int OK = SyndromeEmbedder.OK;
    private static final int BAD = SyndromeEmbedder.BAD;
    private static final int WET = SyndromeEmbedder.WET;
    private static final int NOT_READY = SyndromeEmbedder.NOT_READY;
    private static final int NO_SOLUTION = SyndromeEmbedder.NO_SOLUTION;
    private static final int NO_RESULT = SyndromeEmbedder.NO_RESULT;
    private static final int[] LIMITS = {0, 10, 5, 3};
    private static final Checks CHECKS = new Checks();

    public static void main(String[] args) {
        sizesNeverChange();
        submatrixRange();
        coverSizeAndOrder();
        messageLimits();
        readyNeedsBoth();
        readyWithoutResult();
        matrixInsideTheBand();
        matrixRowsCutAway();
        rowsComeBackWhenTheMessageGrows();
        syndromeModuloTwo();
        wetStaysAsItIs();
        costOfNoChangeIsZero();
        freeChangeCountsInTheChangeNumber();
        tieOfLeastCost();
        CHECKS.end();
    }

    private static void sizesNeverChange() {
        CHECKS.sentence("Terms, Sizes",
                "The height h (1..4) and the width w (1..3) are set by the constructor and never change.");
        for (State state : State.all()) {
            SyndromeEmbedder x = state.make();
            checkSizes(state.name, x, state.h, state.w);
            x.embed();
            x.clear();
            checkSizes(state.name + ", cleared", x, state.h, state.w);
        }
    }

    private static void checkSizes(String when, SyndromeEmbedder x, int h, int w) {
        CHECKS.holds(when + ": column w - 1 is there", x.columnBits(w - 1) >= 0);
        CHECKS.due(when + ": columnBits(w)", x.columnBits(w), BAD);
        CHECKS.due(when + ": loadColumn(0, 2^h)", x.loadColumn(0, 1 << h), BAD);
        CHECKS.due(when + ": loadColumn(0, 2^h - 1)", x.loadColumn(0, (1 << h) - 1), OK);
    }

    private static void submatrixRange() {
        CHECKS.sentence("Terms, Submatrix", "It has w columns, numbered 0..w-1, each a number 0..2^h-1.");
        for (int h = 1; h <= 4; h++) {
            for (int w = 1; w <= 3; w++) {
                SyndromeEmbedder x = new SyndromeEmbedder(h, w);
                String made = "h " + h + ", w " + w + ": ";
                for (int column = -1; column <= 3; column++) {
                    for (int bits = -1; bits <= 16; bits++) {
                        boolean fits = column >= 0 && column < w && bits >= 0 && bits < 1 << h;
                        String call = made + "loadColumn(" + column + ", " + bits + ")";
                        CHECKS.due(call, x.loadColumn(column, bits), fits ? OK : BAD);
                        if (fits) {
                            CHECKS.due(call + ", columnBits", x.columnBits(column), bits);
                        }
                    }
                }
            }
        }
    }

    private static void coverSizeAndOrder() {
        CHECKS.sentence("Terms, Cover", "A list of n elements, n = 0..10, numbered from 0 in the order fed.");
        for (int pattern = 0; pattern < 1024; pattern++) {
            SyndromeEmbedder x = new SyndromeEmbedder(1, 1);
            for (int i = 0; i < 10; i++) {
                CHECKS.due("coverBit(" + i + ") before", x.coverBit(i), BAD);
                CHECKS.due("addCover " + i, x.addCover(pattern >> i & 1, pattern - i & 511), OK);
            }
            for (int i = 0; i < 10; i++) {
                CHECKS.due("coverBit(" + i + ")", x.coverBit(i), pattern >> i & 1);
                CHECKS.due("coverCost(" + i + ")", x.coverCost(i), pattern - i & 511);
            }
        }
    }

    private static void messageLimits() {
        CHECKS.sentence("Terms, Message",
                "k is at most the message limit, which is 10 for w = 1, 5 for w = 2, 3 for w = 3.");
        for (int w = 1; w <= 3; w++) {
            for (int pattern = 0; pattern < 1 << LIMITS[w]; pattern++) {
                SyndromeEmbedder x = new SyndromeEmbedder(4, w);
                for (int row = 0; row < LIMITS[w]; row++) {
                    CHECKS.due("messageBit(" + row + ") before", x.messageBit(row), BAD);
                    CHECKS.due("w " + w + ": addMessage " + row, x.addMessage(pattern >> row & 1), OK);
                }
                CHECKS.due("w " + w + ": addMessage", x.addMessage(1), SyndromeEmbedder.FULL);
                for (int row = 0; row < LIMITS[w]; row++) {
                    CHECKS.due("messageBit(" + row + ")", x.messageBit(row), pattern >> row & 1);
                }
            }
        }
    }

    private static void readyNeedsBoth() {
        CHECKS.sentence("Terms, Ready", "The object is ready if k >= 1 and n == w * k.");
        for (int h = 1; h <= 4; h++) {
            for (int w = 1; w <= 3; w++) {
                for (int k = 0; k <= LIMITS[w]; k++) {
                    for (int n = 0; n <= 10; n++) {
                        boolean ready = k >= 1 && n == w * k;
                        String when = "h " + h + ", w " + w + ", k " + k + ", n " + n;
                        SyndromeEmbedder x = zeros(h, w, n, k);
                        CHECKS.due(when + ": forcedCost(0, 0)", x.forcedCost(0, 0), ready ? 0 : NOT_READY);
                        CHECKS.due(when + ": embed()", x.embed(), ready ? OK : NOT_READY);
                    }
                }
            }
        }
    }

    private static SyndromeEmbedder zeros(int h, int w, int n, int k) {
        SyndromeEmbedder x = new SyndromeEmbedder(h, w);
        for (int i = 0; i < n; i++) {
            x.addCover(0, 1);
        }
        for (int row = 0; row < k; row++) {
            x.addMessage(0);
        }
        return x;
    }

    private static void readyWithoutResult() {
        CHECKS.sentence("Terms, Ready", "Whether a result is present does not matter to this.");
        SyndromeEmbedder x = zeros(2, 2, 4, 2);
        CHECKS.due("no result: forcedCost(0, 1)", x.forcedCost(0, 1), 2);
        CHECKS.due("no result: embed()", x.embed(), OK);
        CHECKS.due("result: forcedCost(0, 1)", x.forcedCost(0, 1), 2);
        CHECKS.due("result: embed()", x.embed(), OK);
        x.setCost(0, 3);
        CHECKS.due("result lost: forcedCost(0, 1)", x.forcedCost(0, 1), 4);
        CHECKS.due("result lost: embed()", x.embed(), OK);
        x.loadColumn(0, 1);
        CHECKS.due("lost by loadColumn: forcedCost(0, 1)", x.forcedCost(0, 1), 4);
        CHECKS.due("lost by loadColumn: embed()", x.embed(), OK);
        SyndromeEmbedder y = zeros(1, 1, 1, 0);
        y.loadColumn(0, 0);
        y.addMessage(1);
        CHECKS.due("no solution: embed()", y.embed(), NO_SOLUTION);
        CHECKS.due("after no solution: forcedCost(0, 0)", y.forcedCost(0, 0), NO_SOLUTION);
        CHECKS.due("after no solution: embed()", y.embed(), NO_SOLUTION);
    }

    /** With every element wet and 0 the result is all 0, so a flip of i shows column i of H. */
    private static void checkMatrix(int h, int w, int k, int[] columns) {
        SyndromeEmbedder x = new SyndromeEmbedder(h, w);
        String when = "h " + h + ", w " + w + ", k " + k + ", columns";
        for (int j = 0; j < w; j++) {
            x.loadColumn(j, columns[j]);
            when += " " + columns[j];
        }
        for (int i = 0; i < w * k; i++) {
            x.addCover(0, WET);
        }
        for (int row = 0; row < k; row++) {
            x.addMessage(0);
        }
        CHECKS.due(when + ": embed()", x.embed(), OK);
        for (int i = 0; i < w * k; i++) {
            x.flip(i);
            for (int r = 0; r < k; r++) {
                int below = r - i / w;
                int want = below >= 0 && below <= h - 1 ? columns[i % w] >> below & 1 : 0;
                CHECKS.due(when + ": H(" + r + ", " + i + ")", x.extractBit(r), want);
            }
            for (int r = k; r <= 14; r++) {
                CHECKS.due(when + ": row " + r, x.extractBit(r), BAD);
            }
            x.flip(i);
        }
    }

    private static void matrixInsideTheBand() {
        CHECKS.sentence("Terms, Parity-check matrix H", "Then H(r, i) is bit (r - b) of submatrix column j if "
                + "b <= r <= b + h - 1, and 0 for every other r.");
        for (int h = 1; h <= 4; h++) {
            for (int w = 1; w <= 3; w++) {
                for (int all = 0; all < 1 << h * w; all++) {
                    int[] columns = {all % (1 << h), (all >> h) % (1 << h), (all >> 2 * h) % (1 << h)};
                    checkMatrix(h, w, LIMITS[w], columns);
                }
            }
        }
    }

    private static void matrixRowsCutAway() {
        CHECKS.sentence("Terms, Parity-check matrix H", "What would lie in rows k and beyond is cut away.");
        for (int w = 1; w <= 3; w++) {
            for (int k = 1; k <= LIMITS[w]; k++) {
                for (int bits = 0; bits < 16; bits++) {
                    checkMatrix(4, w, k, new int[] {bits, 15 - bits, 15});
                    checkCutSolution(w, k, bits);
                }
            }
        }
    }

    /** The last block keeps only row k - 1: whether it can be used there hangs on bit 0 of the column alone. */
    private static void checkCutSolution(int w, int k, int bits) {
        SyndromeEmbedder x = new SyndromeEmbedder(4, w);
        for (int j = 0; j < w; j++) {
            x.loadColumn(j, j == w - 1 ? bits : 0);
        }
        for (int i = 0; i < w * k; i++) {
            x.addCover(0, i == w * k - 1 ? 6 : WET);
        }
        for (int row = 0; row < k; row++) {
            x.addMessage(row == k - 1 ? 1 : 0);
        }
        boolean usable = (bits & 1) == 1;
        String when = "w " + w + ", k " + k + ", column " + bits;
        CHECKS.due(when + ": forcedCost", x.forcedCost(w * k - 1, 1), usable ? 6 : NO_SOLUTION);
        CHECKS.due(when + ": embed()", x.embed(), usable ? OK : NO_SOLUTION);
        CHECKS.due(when + ": totalCost()", x.totalCost(), usable ? 6 : NO_RESULT);
    }

    private static void rowsComeBackWhenTheMessageGrows() {
        CHECKS.sentence("Terms, Parity-check matrix H", "It has k rows 0..k-1 and n columns 0..n-1.");
        SyndromeEmbedder x = new SyndromeEmbedder(4, 1);
        x.loadColumn(0, 15);
        for (int k = 1; k <= 10; k++) {
            x.addCover(k == 1 ? 1 : 0, k == 1 ? WET : 1);
            x.addMessage(k <= 4 ? 1 : 0);
            CHECKS.due("k " + k + ": embed()", x.embed(), OK);
            // Element 0 alone gives the message, whose ones end where the band of element 0 does.
            CHECKS.due("k " + k + ": totalCost()", x.totalCost(), 0);
            x.flip(0);
            for (int row = 0; row < 10; row++) {
                CHECKS.due("k " + k + ": extractBit(" + row + ")", x.extractBit(row), row < k ? 0 : BAD);
            }
        }
    }

    private static void syndromeModuloTwo() {
        CHECKS.sentence("Terms, Syndrome", "The syndrome of a vector v of n bits is the k bits s(r) = sum over i of "
                + "H(r, i) * v(i), modulo 2.");
        SyndromeEmbedder x = new SyndromeEmbedder(4, 3);
        for (int j = 0; j < 3; j++) {
            x.loadColumn(j, 15);
        }
        for (int i = 0; i < 9; i++) {
            x.addCover(0, WET);
        }
        for (int row = 0; row < 3; row++) {
            x.addMessage(0);
        }
        CHECKS.due("embed()", x.embed(), OK);
        int[] ones = new int[3];
        for (int i = 0; i < 9; i++) {
            x.flip(i);
            for (int r = 0; r < 3; r++) {
                ones[r] += r >= i / 3 ? 1 : 0;
                CHECKS.due(ones[r] + " ones in row " + r, x.extractBit(r), ones[r] % 2);
            }
        }
    }

    private static void wetStaysAsItIs() {
        CHECKS.sentence("Terms, Solution", "A vector v of n bits whose syndrome is the message (s(r) = m(r) for all "
                + "r = 0..k-1), and for which v(i) = x(i) at every i whose cost is WET.");
        for (int wet = 0; wet < 1024; wet++) {
            SyndromeEmbedder x = new SyndromeEmbedder(1, 1);
            for (int i = 0; i < 10; i++) {
                x.addCover(i & 1, (wet >> i & 1) == 1 ? WET : 1);
                x.addMessage(i % 3 == 0 ? 1 : 0);
            }
            // With the column 1 alone, element i gives row i: it is right as it is, or must be changed.
            int wrong = 0;
            for (int i = 0; i < 10; i++) {
                wrong |= (i & 1) == (i % 3 == 0 ? 1 : 0) ? 0 : 1 << i;
            }
            boolean solved = (wrong & wet) == 0;
            CHECKS.due("wet " + wet + ": embed()", x.embed(), solved ? OK : NO_SOLUTION);
            CHECKS.due("wet " + wet + ": totalCost()", x.totalCost(), solved ? Integer.bitCount(wrong) : NO_RESULT);
        }
    }

    private static void costOfNoChangeIsZero() {
        CHECKS.sentence("Terms, Solution",
                "Its cost is the sum of c(i) over all i with v(i) != x(i); it is 0 if there is no such i.");
        int[] costs = {WET, 1000, 1, 0, 7};
        for (int cost : costs) {
            SyndromeEmbedder x = new SyndromeEmbedder(1, 1);
            x.addCover(1, cost);
            x.addCover(0, 1000);
            x.addMessage(1);
            x.addMessage(0);
            CHECKS.due("right as it is, cost " + cost + ": forcedCost(0, 1)", x.forcedCost(0, 1), 0);
            CHECKS.due("right as it is, cost " + cost + ": embed()", x.embed(), OK);
            CHECKS.due("right as it is, cost " + cost + ": totalCost()", x.totalCost(), 0);
        }
        SyndromeEmbedder y = new SyndromeEmbedder(1, 1);
        int sum = 0;
        for (int i = 0; i < 10; i++) {
            y.addCover(1, 1 << i);
            y.addMessage(i % 2);
            sum += i % 2 == 0 ? 1 << i : 0;
        }
        CHECKS.due("every other one changed: embed()", y.embed(), OK);
        CHECKS.due("every other one changed: totalCost()", y.totalCost(), sum);
    }

    private static void freeChangeCountsInTheChangeNumber() {
        CHECKS.sentence("Terms, Solution",
                "A change of cost 0 adds nothing to the cost but does count in the change number.");
        SyndromeEmbedder x = new SyndromeEmbedder(2, 3);
        x.loadColumn(0, 1);
        x.loadColumn(1, 3);
        x.loadColumn(2, 2);
        int[] costs = {3, 3, 0, WET, WET, WET};
        for (int cost : costs) {
            x.addCover(0, cost);
        }
        x.addMessage(1);
        x.addMessage(1);
        CHECKS.due("embed()", x.embed(), OK);
        // Elements 0 and 2 (the free one) give number 5; element 1 gives 2, but would come after a number of 1.
        CHECKS.due("totalCost()", x.totalCost(), 3);
        CHECKS.due("optimalCount()", x.optimalCount(), 2);
        int[] altered = {0, 1, 0, 0, 0, 0};
        for (int i = 0; i < 6; i++) {
            CHECKS.due("alteredBit(" + i + ")", x.alteredBit(i), altered[i]);
        }
        SyndromeEmbedder y = new SyndromeEmbedder(1, 2);
        y.loadColumn(1, 0);
        y.addCover(1, 4);
        y.addCover(1, 0);
        y.addMessage(0);
        CHECKS.due("a needless free change: embed()", y.embed(), OK);
        CHECKS.due("a needless free change: totalCost()", y.totalCost(), 4);
        CHECKS.due("a needless free change: alteredBit(1)", y.alteredBit(1), 1);
    }

    private static void tieOfLeastCost() {
        CHECKS.sentence("Terms, Best solution",
                "The solution of least cost; among several of that cost, the one of least change number.");
        for (int pattern = 0; pattern < 512; pattern++) {
            // All columns 1: each block of three needs an odd or an even number of ones.
            SyndromeEmbedder x = new SyndromeEmbedder(1, 3);
            for (int i = 0; i < 9; i++) {
                x.addCover(pattern >> i & 1, 4);
            }
            int count = 1;
            int change = 0;
            for (int block = 0; block < 3; block++) {
                x.addMessage(1);
                if (Integer.bitCount(pattern >> 3 * block & 7) % 2 == 0) {
                    count *= 3;
                    change |= 1 << 3 * block;
                }
            }
            CHECKS.due("cover " + pattern + ": embed()", x.embed(), OK);
            CHECKS.due("cover " + pattern + ": totalCost()", x.totalCost(), 4 * Integer.bitCount(change));
            CHECKS.due("cover " + pattern + ": optimalCount()", x.optimalCount(), count);
            for (int i = 0; i < 9; i++) {
                int want = (pattern ^ change) >> i & 1;
                CHECKS.due("cover " + pattern + ": alteredBit(" + i + ")", x.alteredBit(i), want);
            }
        }
    }
}
