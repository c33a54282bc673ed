import java.util.ArrayList;
import java.util.Arrays;
import java.util.List;

/** A second form of the document, as near to its words as can be: lists, the whole matrix, every vector. */
final class Model {
    private static final int WET = -1;
    private static final int BAD = -2;
    private static final int FULL = -3;
    private static final int NOT_READY = -4;
    private static final int NO_SOLUTION = -5;
    private static final int NO_RESULT = -6;

    private final int h;
    private final int w;
    private final int[] submatrix;
    private final List<Integer> x = new ArrayList<>();
    private final List<Integer> c = new ArrayList<>();
    private final List<Integer> m = new ArrayList<>();
    private Result result = null;

    private static final class Result {
        int[] altered;
        int[] received;
        int cost;
        int count;
    }

    Model(int height, int width) {
        h = Math.min(4, Math.max(1, height));
        w = Math.min(3, Math.max(1, width));
        submatrix = new int[w];
        Arrays.fill(submatrix, 1);
    }

    int loadColumn(int column, int bits) {
        if (column < 0 || column > w - 1 || bits < 0 || bits > Math.pow(2, h) - 1) {
            return BAD;
        }
        submatrix[column] = bits;
        result = null;
        return 0;
    }

    int columnBits(int column) {
        return column < 0 || column > w - 1 ? BAD : submatrix[column];
    }

    int addCover(int bit, int cost) {
        if (x.size() == 10) {
            return FULL;
        }
        if (notBit(bit) || notCost(cost)) {
            return BAD;
        }
        x.add(bit);
        c.add(cost);
        result = null;
        return 0;
    }

    int setCost(int index, int cost) {
        if (index < 0 || index > x.size() - 1 || notCost(cost)) {
            return BAD;
        }
        c.set(index, cost);
        result = null;
        return 0;
    }

    int addMessage(int bit) {
        if (m.size() == new int[] {0, 10, 5, 3}[w]) {
            return FULL;
        }
        if (notBit(bit)) {
            return BAD;
        }
        m.add(bit);
        result = null;
        return 0;
    }

    void clear() {
        x.clear();
        c.clear();
        m.clear();
        result = null;
    }

    int coverBit(int index) {
        return index < 0 || index > x.size() - 1 ? BAD : x.get(index);
    }

    int coverCost(int index) {
        return index < 0 || index > c.size() - 1 ? BAD : c.get(index);
    }

    int messageBit(int row) {
        return row < 0 || row > m.size() - 1 ? BAD : m.get(row);
    }

    int embed() {
        if (notReady()) {
            return NOT_READY;
        }
        result = null;
        int bestChange = -1;
        for (int[] v : solutions()) {
            int cost = costOf(v);
            int change = changeNumber(v);
            if (result == null || cost < result.cost) {
                result = new Result();
                result.cost = cost;
                result.count = 1;
                result.altered = v;
                bestChange = change;
            } else if (cost == result.cost) {
                result.count++;
                if (change < bestChange) {
                    result.altered = v;
                    bestChange = change;
                }
            }
        }
        if (result == null) {
            return NO_SOLUTION;
        }
        result.received = result.altered.clone();
        return 0;
    }

    int totalCost() {
        return result == null ? NO_RESULT : result.cost;
    }

    int optimalCount() {
        return result == null ? NO_RESULT : result.count;
    }

    int alteredBit(int index) {
        if (result == null) {
            return NO_RESULT;
        }
        return index < 0 || index > x.size() - 1 ? BAD : result.altered[index];
    }

    int flip(int index) {
        if (result == null) {
            return NO_RESULT;
        }
        if (index < 0 || index > x.size() - 1) {
            return BAD;
        }
        result.received[index] = 1 - result.received[index];
        return 0;
    }

    int extractBit(int row) {
        if (result == null) {
            return NO_RESULT;
        }
        return row < 0 || row > m.size() - 1 ? BAD : syndrome(result.received, row);
    }

    int forcedCost(int index, int bit) {
        if (notReady()) {
            return NOT_READY;
        }
        if (index < 0 || index > x.size() - 1 || notBit(bit)) {
            return BAD;
        }
        int least = NO_SOLUTION;
        for (int[] v : solutions()) {
            if (v[index] == bit && (least == NO_SOLUTION || costOf(v) < least)) {
                least = costOf(v);
            }
        }
        return least;
    }

    private static boolean notBit(int bit) {
        return bit != 0 && bit != 1;
    }

    private static boolean notCost(int cost) {
        return cost != WET && (cost < 0 || cost > 1000);
    }

    private boolean notReady() {
        return !(m.size() >= 1 && x.size() == w * m.size());
    }

    private int matrix(int r, int i) {
        int b = i / w;
        int j = i - b * w;
        return b <= r && r <= b + h - 1 ? submatrix[j] / (int) Math.pow(2, r - b) % 2 : 0;
    }

    private int syndrome(int[] v, int r) {
        int sum = 0;
        for (int i = 0; i < v.length; i++) {
            sum += matrix(r, i) * v[i];
        }
        return sum % 2;
    }

    /** From the greatest vector down, so that no answer leans on the order in which the class goes. */
    private List<int[]> solutions() {
        List<int[]> all = new ArrayList<>();
        for (int number = (1 << x.size()) - 1; number >= 0; number--) {
            int[] v = new int[x.size()];
            for (int i = 0; i < v.length; i++) {
                v[i] = number >> i & 1;
            }
            if (isSolution(v)) {
                all.add(v);
            }
        }
        return all;
    }

    private boolean isSolution(int[] v) {
        for (int i = 0; i < v.length; i++) {
            if (c.get(i) == WET && v[i] != x.get(i)) {
                return false;
            }
        }
        for (int r = 0; r < m.size(); r++) {
            if (syndrome(v, r) != m.get(r)) {
                return false;
            }
        }
        return true;
    }

    private int costOf(int[] v) {
        int cost = 0;
        for (int i = 0; i < v.length; i++) {
            cost += v[i] != x.get(i) ? c.get(i) : 0;
        }
        return cost;
    }

    private int changeNumber(int[] v) {
        int number = 0;
        for (int i = 0; i < v.length; i++) {
            number += v[i] != x.get(i) ? 1 << i : 0;
        }
        return number;
    }
}
