import java.util.List;
import java.util.function.Consumer;

/** A state that an object can be in; every object made of it has had the same calls. */
final class State {
    private static final int WET = SyndromeEmbedder.WET;

    final String name;
    final int h;
    final int w;
    int n = 0;
    int k = 0;
    boolean hasResult = false;
    private int[] columns = {};
    private int[] bits = {};
    private int[] costs = {};
    private int[] message = {};
    private Consumer<SyndromeEmbedder> before = x -> { };
    private Consumer<SyndromeEmbedder> after = x -> { };

    private State(String name, int h, int w) {
        this.name = name;
        this.h = h;
        this.w = w;
    }

    static List<State> all() {
        int[] tenBits = {1, 0, 0, 1, 1, 1, 0, 1, 0, 0};
        int[] tenCosts = {3, 0, 1000, WET, 2, 1, 0, 5, WET, 4};
        int[] dryCosts = {3, 0, 1000, 7, 2, 1, 0, 5, 8, 4};
        int[] nineBits = {1, 0, 0, 1, 1, 1, 0, 1, 0};
        int[] nineCosts = {3, 0, 1000, WET, 2, 1, 0, 5, 2};
        int[] tenMessage = {0, 1, 1, 0, 1, 0, 0, 1, 1, 1};
        return List.of(
            new State("start, 1 by 1", 1, 1),
            new State("start, 4 by 3", 4, 3),
            new State("columns alone", 3, 2).columns(6, 0),
            new State("cover alone", 2, 2).columns(3, 2).cover(new int[] {1, 0, 1}, new int[] {4, WET, 0}),
            new State("message alone", 3, 3).columns(1, 5, 7).message(1, 0),
            new State("cover full, no message", 4, 1).columns(11).cover(tenBits, tenCosts),
            new State("both full, width 3", 3, 3).columns(7, 2, 5).cover(tenBits, tenCosts).message(1, 0, 1),
            new State("message full, cover one short", 2, 1).columns(3).cover(nineBits, nineCosts)
                .message(tenMessage),
            new State("cover one over", 2, 2).columns(3, 1).cover(new int[] {1, 0, 1, 0, 1}, new int[5])
                .message(1, 0),
            new State("ready", 3, 2).columns(5, 7).cover(new int[] {1, 0, 1, 1}, new int[] {9, 8, 7, WET})
                .message(0, 1),
            new State("ready after a lost result", 2, 2).columns(3, 2)
                .cover(new int[] {0, 0, 1, 0}, new int[] {5, 2, 6, 0}).message(1, 0).then(State::losesResult),
            new State("ready without a solution", 2, 1).columns(2).cover(new int[] {1, 1}, new int[] {1, 2})
                .message(1, 0).then(SyndromeEmbedder::embed),
            new State("result", 2, 2).columns(3, 2).cover(new int[] {0, 0, 0, 0}, new int[] {5, 2, 2, 0})
                .message(1, 0).then(SyndromeEmbedder::embed).result(),
            new State("result, flipped", 3, 2).columns(5, 3)
                .cover(new int[] {1, 0, 1, 0, 0, 1}, new int[] {6, WET, 2, 2, 0, 1}).message(1, 0, 1)
                .then(State::embedAndFlip).result(),
            new State("result of ten by ten, flipped", 4, 1).columns(13).cover(tenBits, dryCosts)
                .message(tenMessage).then(State::embedAndFlip).result(),
            new State("result of ten by five", 4, 2).columns(9, 6).cover(tenBits, dryCosts)
                .message(1, 1, 0, 1, 0).then(SyndromeEmbedder::embed).result(),
            new State("result of nine by three, flipped", 4, 3).columns(15, 6, 3).cover(nineBits, nineCosts)
                .message(1, 1, 0).then(State::embedAndFlip).result(),
            new State("result of one by one", 1, 1).cover(new int[] {1}, new int[] {WET}).message(1)
                .then(State::embedAndFlip).result(),
            new State("cleared", 2, 2).columns(3, 2).after(State::usedAndCleared),
            new State("result after a clear", 2, 2).columns(3, 2).after(State::usedAndCleared)
                .cover(new int[] {0, 1, 0, 1}, new int[] {1, 1, 1, 1}).message(1, 1).then(State::embedAndFlip)
                .result());
    }

    private static void losesResult(SyndromeEmbedder x) {
        x.embed();
        x.flip(1);
        x.setCost(2, 6);
    }

    private static void embedAndFlip(SyndromeEmbedder x) {
        x.embed();
        x.flip(0);
        x.flip(2);
    }

    private static void usedAndCleared(SyndromeEmbedder x) {
        for (int i = 0; i < 10; i++) {
            x.addCover(1, 3);
            x.addMessage(1);
        }
        x.embed();
        x.flip(4);
        x.clear();
    }

    private State columns(int... values) {
        columns = values;
        return this;
    }

    private State cover(int[] coverBits, int[] coverCosts) {
        bits = coverBits;
        costs = coverCosts;
        n = coverBits.length;
        return this;
    }

    private State message(int... messageBits) {
        message = messageBits;
        k = messageBits.length;
        return this;
    }

    private State after(Consumer<SyndromeEmbedder> calls) {
        before = calls;
        return this;
    }

    private State then(Consumer<SyndromeEmbedder> calls) {
        after = calls;
        return this;
    }

    private State result() {
        hasResult = true;
        return this;
    }

    SyndromeEmbedder make() {
        SyndromeEmbedder x = withColumns();
        before.accept(x);
        for (int i = 0; i < n; i++) {
            x.addCover(bits[i], costs[i]);
        }
        for (int bit : message) {
            x.addMessage(bit);
        }
        after.accept(x);
        return x;
    }

    /** The object with its columns alone, nothing else done to it. */
    SyndromeEmbedder withColumns() {
        SyndromeEmbedder x = new SyndromeEmbedder(h, w);
        for (int column = 0; column < columns.length; column++) {
            x.loadColumn(column, columns[column]);
        }
        return x;
    }

    boolean isReady() {
        return k >= 1 && n == w * k;
    }

    int messageLimit() {
        return w == 1 ? 10 : w == 2 ? 5 : 3;
    }

    int[] columnValues() {
        return columns;
    }

    int[] coverBits() {
        return bits;
    }

    int[] coverCosts() {
        return costs;
    }

    int[] messageBits() {
        return message;
    }
}
