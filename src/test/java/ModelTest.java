/** All promises: long runs of calls, right and wrong ones, with every answer compared with the model's. */
public final class ModelTest {
    private static final int RUNS = 3000;
    private static final int CALLS = 25;
    private static final int LONG_RUNS = 12;
    private static final int LONG_CALLS = 3000;
    private static final int[] ODD = {Integer.MIN_VALUE, -1001, -6, -3, -2, -1, 2, 10, 11, 16, 32, 1001,
        Integer.MAX_VALUE};
    private static final int[][] COSTS = {{0, 0, 1}, {1, 1, 2, -1}, {0, 1, 2, 3, -1}, {1000, 999, 0, 7},
        {-1, -1, 0, 5}, {1}, {0}};
    private static final Checks CHECKS = new Checks();

    private final int number;
    private final SyndromeEmbedder x;
    private final Model model;
    private final int w;
    private final int[] costs;
    // A fixed sequence from the run's number: the same calls every time the test runs.
    private long state;

    private ModelTest(int number) {
        this.number = number;
        state = number * 7919L + 1;
        int height = next(6);
        w = 1 + next(3);
        x = new SyndromeEmbedder(height, w);
        model = new Model(height, w);
        costs = COSTS[next(COSTS.length)];
    }

    public static void main(String[] args) {
        for (int number = 0; number < RUNS; number++) {
            new ModelTest(number).run(CALLS);
        }
        // One object for thousands of calls: nothing may wear out or build up.
        for (int number = RUNS; number < RUNS + LONG_RUNS; number++) {
            new ModelTest(number).run(LONG_CALLS);
        }
        CHECKS.end();
    }

    private void run(int calls) {
        fill();
        for (int call = 0; call < calls; call++) {
            makeCall();
            compareReaders();
        }
    }

    private int next(int limit) {
        state = state * 6364136223846793005L + 1442695040888963407L;
        return (int) ((state >>> 33) % limit);
    }

    /** Mostly a right argument, at times one past the end, at times one far off. */
    private int argument(int limit) {
        int kind = next(12);
        return kind == 0 ? ODD[next(ODD.length)] : kind == 1 ? limit : next(limit);
    }

    private int cost() {
        return next(12) == 0 ? ODD[next(ODD.length)] : costs[next(costs.length)];
    }

    private void due(String call, int got, int want) {
        CHECKS.due("run " + number + ": " + call, got, want);
    }

    private void fill() {
        for (int column = 0; column < w; column++) {
            load(column, next(16));
        }
        int k = 1 + next(10 / w);
        for (int row = 0; row < k; row++) {
            message(next(2));
        }
        for (int i = 0; i < w * k; i++) {
            cover(next(2), costs[next(costs.length)]);
        }
    }

    private void load(int column, int bits) {
        due("loadColumn(" + column + ", " + bits + ")", x.loadColumn(column, bits), model.loadColumn(column, bits));
    }

    private void cover(int bit, int cost) {
        due("addCover(" + bit + ", " + cost + ")", x.addCover(bit, cost), model.addCover(bit, cost));
    }

    private void message(int bit) {
        due("addMessage(" + bit + ")", x.addMessage(bit), model.addMessage(bit));
    }

    private void cost(int index, int cost) {
        due("setCost(" + index + ", " + cost + ")", x.setCost(index, cost), model.setCost(index, cost));
    }

    private void flip(int index) {
        due("flip(" + index + ")", x.flip(index), model.flip(index));
    }

    private void force(int index, int bit) {
        due("forcedCost(" + index + ", " + bit + ")", x.forcedCost(index, bit), model.forcedCost(index, bit));
    }

    private void makeCall() {
        int kind = next(40);
        if (kind < 10) {
            due("embed()", x.embed(), model.embed());
        } else if (kind < 20) {
            flip(argument(10));
        } else if (kind < 28) {
            force(argument(10), argument(2));
        } else if (kind < 33) {
            cost(argument(10), cost());
        } else if (kind < 36) {
            load(argument(w), argument(16));
        } else if (kind == 36) {
            cover(argument(2), cost());
        } else if (kind == 37) {
            message(argument(2));
        } else if (kind == 38) {
            x.clear();
            model.clear();
            fill();
        } else {
            x.clear();
            model.clear();
        }
    }

    private void compareReaders() {
        due("totalCost()", x.totalCost(), model.totalCost());
        due("optimalCount()", x.optimalCount(), model.optimalCount());
        for (int i = -1; i <= 10; i++) {
            due("coverBit(" + i + ")", x.coverBit(i), model.coverBit(i));
            due("coverCost(" + i + ")", x.coverCost(i), model.coverCost(i));
            due("messageBit(" + i + ")", x.messageBit(i), model.messageBit(i));
            due("alteredBit(" + i + ")", x.alteredBit(i), model.alteredBit(i));
            due("extractBit(" + i + ")", x.extractBit(i), model.extractBit(i));
            due("columnBits(" + i + ")", x.columnBits(i), model.columnBits(i));
        }
    }
}
