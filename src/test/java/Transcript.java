import java.util.ArrayList;
import java.util.List;
import java.util.function.Supplier;

/** Calls and their answers written down, so that two objects can be compared in all that they show. */
final class Transcript {
    private static final int METHODS = 9;

    private final SyndromeEmbedder x;
    private final List<String> lines = new ArrayList<>();

    private Transcript(SyndromeEmbedder x) {
        this.x = x;
    }

    /** What the methods tell that only read. */
    static List<String> readers(SyndromeEmbedder x) {
        Transcript transcript = new Transcript(x);
        transcript.read();
        return transcript.lines;
    }

    /**
     * What objects made alike tell. Each reading method gets an object that no other has read before, or a method
     * that wrongly changes something would hide it; one more object goes on to live and change all it has.
     */
    static List<String> life(Supplier<SyndromeEmbedder> maker) {
        List<String> lines = new ArrayList<>();
        for (int method = 0; method < METHODS; method++) {
            Transcript first = new Transcript(maker.get());
            first.read(method);
            lines.addAll(first.lines);
        }
        Transcript transcript = new Transcript(maker.get());
        transcript.live();
        lines.addAll(transcript.lines);
        return lines;
    }

    private void line(String call, int answer) {
        lines.add(call + " answers " + answer);
    }

    private void read() {
        for (int method = 0; method < METHODS - 1; method++) {
            read(method);
        }
    }

    private void read(int method) {
        for (int i = -1; i <= 10; i++) {
            switch (method) {
                case 0 -> line("totalCost()", x.totalCost());
                case 1 -> line("optimalCount()", x.optimalCount());
                case 2 -> line("extractBit(" + i + ")", x.extractBit(i));
                case 3 -> line("alteredBit(" + i + ")", x.alteredBit(i));
                case 4 -> line("coverBit(" + i + ")", x.coverBit(i));
                case 5 -> line("coverCost(" + i + ")", x.coverCost(i));
                case 6 -> line("messageBit(" + i + ")", x.messageBit(i));
                case 7 -> line("columnBits(" + i + ")", x.columnBits(i));
                default -> force(i);
            }
        }
    }

    private void force(int index) {
        line("forcedCost(" + index + ", 0)", x.forcedCost(index, 0));
        line("forcedCost(" + index + ", 1)", x.forcedCost(index, 1));
    }

    private void live() {
        read();
        for (int i = 0; i < 10; i++) {
            line("flip(" + i + ")", x.flip(i));
            read();
        }
        embed();
        for (int column = 0; column < 4; column++) {
            load(column, 5);
            load(column, 15 >> column);
            load(column, 16 >> column);
        }
        embed();
        for (int row = 0; row < 11; row++) {
            int bit = row % 3 == 1 ? 0 : 1;
            line("addMessage(" + bit + ")", x.addMessage(bit));
            line("addCover(0, 2)", x.addCover(0, 2));
            embed();
            line("addCover(1, 1)", x.addCover(1, 1));
            embed();
        }
        for (int i = 0; i < 10; i++) {
            line("setCost(" + i + ", WET)", x.setCost(i, SyndromeEmbedder.WET));
        }
        embed();
        x.clear();
        read();
        read(METHODS - 1);
    }

    private void load(int column, int bits) {
        line("loadColumn(" + column + ", " + bits + ")", x.loadColumn(column, bits));
        read();
    }

    private void embed() {
        line("embed()", x.embed());
        read();
    }
}
