/** Hides message bits in cover bits, as the syndrome of the altered cover, at the least total cost of change. */
public final class SyndromeEmbedder {
    public static final int OK = 0;
    public static final int WET = -1;
    public static final int BAD = -2;
    public static final int FULL = -3;
    public static final int NOT_READY = -4;
    public static final int NO_SOLUTION = -5;
    public static final int NO_RESULT = -6;
    public static final int MAX_COVER = 10;
    public static final int MAX_COST = 1000;

    private static final int MAX_HEIGHT = 4;
    private static final int MAX_WIDTH = 3;

    private final int height;
    private final int width;
    private final int messageLimit;

    private final int[] columns = new int[MAX_WIDTH];
    private final int[] costs = new int[MAX_COVER];

    // A vector of bits is kept in one int, element i with weight 2^i,
    // so that a change number is itself the vector of the changes.
    private int coverVector = 0;
    private int coverCount = 0;
    private int messageVector = 0;
    private int messageCount = 0;

    // The four fields after the first mean something only while the result is present.
    private boolean resultPresent = false;
    private int alteredVector = 0;
    private int receivedVector = 0;
    private int leastCost = 0;
    private int leastCostCount = 0;

    public SyndromeEmbedder(int height, int width) {
        this.height = clamp(height, 1, MAX_HEIGHT);
        this.width = clamp(width, 1, MAX_WIDTH);
        // The limits 10, 5, 3 are those at which width * limit still fits the cover.
        this.messageLimit = MAX_COVER / this.width;
        for (int column = 0; column < MAX_WIDTH; column++) {
            columns[column] = 1;
        }
    }

    public int loadColumn(int column, int bits) {
        if (!isBelow(column, width) || !isBelow(bits, 1 << height)) {
            return BAD;
        }
        columns[column] = bits;
        resultPresent = false;
        return OK;
    }

    public int columnBits(int column) {
        if (!isBelow(column, width)) {
            return BAD;
        }
        return columns[column];
    }

    public int addCover(int bit, int cost) {
        if (coverCount >= MAX_COVER) {
            return FULL;
        }
        if (!isBelow(bit, 2) || !isCost(cost)) {
            return BAD;
        }
        coverVector = coverVector | (bit << coverCount);
        costs[coverCount] = cost;
        coverCount++;
        resultPresent = false;
        return OK;
    }

    public int setCost(int index, int cost) {
        if (!isBelow(index, coverCount) || !isCost(cost)) {
            return BAD;
        }
        costs[index] = cost;
        resultPresent = false;
        return OK;
    }

    public int addMessage(int bit) {
        if (messageCount >= messageLimit) {
            return FULL;
        }
        if (!isBelow(bit, 2)) {
            return BAD;
        }
        messageVector = messageVector | (bit << messageCount);
        messageCount++;
        resultPresent = false;
        return OK;
    }

    public void clear() {
        // The vectors must be zeroed too: appending only ever sets bits in them.
        coverVector = 0;
        coverCount = 0;
        messageVector = 0;
        messageCount = 0;
        resultPresent = false;
    }

    public int coverBit(int index) {
        if (!isBelow(index, coverCount)) {
            return BAD;
        }
        return bitAt(coverVector, index);
    }

    public int coverCost(int index) {
        if (!isBelow(index, coverCount)) {
            return BAD;
        }
        return costs[index];
    }

    public int messageBit(int row) {
        if (!isBelow(row, messageCount)) {
            return BAD;
        }
        return bitAt(messageVector, row);
    }

    public int embed() {
        if (!isReady()) {
            return NOT_READY;
        }
        resultPresent = false;
        int changeLimit = 1 << coverCount;
        for (int change = 0; change < changeLimit; change++) {
            int cost = solutionCost(change);
            if (cost != NO_SOLUTION) {
                weighSolution(change, cost);
            }
        }
        return resultPresent ? OK : NO_SOLUTION;
    }

    public int totalCost() {
        if (!resultPresent) {
            return NO_RESULT;
        }
        return leastCost;
    }

    public int optimalCount() {
        if (!resultPresent) {
            return NO_RESULT;
        }
        return leastCostCount;
    }

    public int alteredBit(int index) {
        if (!resultPresent) {
            return NO_RESULT;
        }
        if (!isBelow(index, coverCount)) {
            return BAD;
        }
        return bitAt(alteredVector, index);
    }

    public int flip(int index) {
        if (!resultPresent) {
            return NO_RESULT;
        }
        if (!isBelow(index, coverCount)) {
            return BAD;
        }
        receivedVector = receivedVector ^ (1 << index);
        return OK;
    }

    public int extractBit(int row) {
        if (!resultPresent) {
            return NO_RESULT;
        }
        if (!isBelow(row, messageCount)) {
            return BAD;
        }
        int syndrome = syndromeOf(receivedVector);
        return bitAt(syndrome, row);
    }

    public int forcedCost(int index, int bit) {
        if (!isReady()) {
            return NOT_READY;
        }
        if (!isBelow(index, coverCount) || !isBelow(bit, 2)) {
            return BAD;
        }
        int forcedChange = bitAt(coverVector, index) ^ bit;
        int least = NO_SOLUTION;
        int changeLimit = 1 << coverCount;
        for (int change = 0; change < changeLimit; change++) {
            if (bitAt(change, index) == forcedChange) {
                int cost = solutionCost(change);
                least = lesserCost(least, cost);
            }
        }
        return least;
    }

    private boolean isReady() {
        return messageCount >= 1 && coverCount == width * messageCount;
    }

    /** The change numbers must come in rising order: among equal costs the first one stays the best. */
    private void weighSolution(int change, int cost) {
        if (!resultPresent || cost < leastCost) {
            resultPresent = true;
            alteredVector = coverVector ^ change;
            receivedVector = alteredVector;
            leastCost = cost;
            leastCostCount = 1;
        } else if (cost == leastCost) {
            leastCostCount++;
        }
    }

    /** The cost of the cover altered by this change, or NO_SOLUTION if that is not a solution. */
    private int solutionCost(int change) {
        int syndrome = syndromeOf(coverVector ^ change);
        if (syndrome != messageVector) {
            return NO_SOLUTION;
        }
        int cost = 0;
        for (int index = 0; index < coverCount; index++) {
            if (bitAt(change, index) == 1) {
                if (costs[index] == WET) {
                    return NO_SOLUTION;
                }
                cost += costs[index];
            }
        }
        return cost;
    }

    private int syndromeOf(int vector) {
        int syndrome = 0;
        for (int index = 0; index < coverCount; index++) {
            if (bitAt(vector, index) == 1) {
                syndrome = syndrome ^ matrixColumn(index);
            }
        }
        return syndrome;
    }

    /** Column index of the parity-check matrix, row r with weight 2^r; the mask cuts away the rows past the message. */
    private int matrixColumn(int index) {
        int block = index / width;
        int column = columns[index - block * width];
        int rowMask = (1 << messageCount) - 1;
        return (column << block) & rowMask;
    }

    /** Either cost may be NO_SOLUTION, which counts as greater than every cost. */
    private static int lesserCost(int one, int other) {
        if (one == NO_SOLUTION) {
            return other;
        }
        if (other == NO_SOLUTION) {
            return one;
        }
        return one < other ? one : other;
    }

    private static boolean isCost(int cost) {
        return cost == WET || isBelow(cost, MAX_COST + 1);
    }

    private static boolean isBelow(int value, int limit) {
        return value >= 0 && value < limit;
    }

    private static int bitAt(int vector, int index) {
        return (vector >> index) & 1;
    }

    private static int clamp(int value, int least, int greatest) {
        if (value < least) {
            return least;
        }
        return value > greatest ? greatest : value;
    }
}
