import java.util.ArrayList;
import java.util.List;

/** Calls and their answers written down, so that two objects can be compared in all that they show. */
final class Transcript {
    private final SyndromeEmbedder x;
    private final List<String> lines = new ArrayList<>();

    private Transcript(SyndromeEmbedder x) {
        this.x = x;
    }

    /** What the methods tell that only read. */
    static List<String> readers(SyndromeEmbedder x) {
        Transcript transcript = new Transcript(x);
        transcript.read();
        return transcript.lines;
    }

    /** What the object tells now and in a life that goes on to change all it has; the object is used up by this. */
    static List<String> life(SyndromeEmbedder x) {
        Transcript transcript = new Transcript(x);
        transcript.live();
        return transcript.lines;
    }

    private void line(String call, int answer) {
        lines.add(call + " answers " + answer);
    }

    private void read() {
        line("totalCost()", x.totalCost());
        line("optimalCount()", x.optimalCount());
        for (int i = -1; i <= 10; i++) {
            line("alteredBit(" + i + ")", x.alteredBit(i));
            line("extractBit(" + i + ")", x.extractBit(i));
            line("coverBit(" + i + ")", x.coverBit(i));
            line("coverCost(" + i + ")", x.coverCost(i));
            line("messageBit(" + i + ")", x.messageBit(i));
        }
        for (int column = -1; column <= 3; column++) {
            line("columnBits(" + column + ")", x.columnBits(column));
        }
    }

    private void live() {
        read();
        force();
        for (int i = 0; i < 10; i++) {
            line("flip(" + i + ")", x.flip(i));
            read();
        }
        embed();
        for (int column = 0; column < 4; column++) {
            load(column, 5);
            load(column, 15 >> column);
            load(column, 16 >> column);
        }
        embed();
        for (int row = 0; row < 11; row++) {
            int bit = row % 3 == 1 ? 0 : 1;
            line("addMessage(" + bit + ")", x.addMessage(bit));
            line("addCover(0, 2)", x.addCover(0, 2));
            embed();
            line("addCover(1, 1)", x.addCover(1, 1));
            embed();
        }
        for (int i = 0; i < 10; i++) {
            line("setCost(" + i + ", WET)", x.setCost(i, SyndromeEmbedder.WET));
        }
        embed();
        x.clear();
        read();
        force();
    }

    private void load(int column, int bits) {
        line("loadColumn(" + column + ", " + bits + ")", x.loadColumn(column, bits));
        read();
    }

    private void embed() {
        line("embed()", x.embed());
        read();
    }

    private void force() {
        for (int i = 0; i < 10; i++) {
            line("forcedCost(" + i + ", 0)", x.forcedCost(i, 0));
            line("forcedCost(" + i + ", 1)", x.forcedCost(i, 1));
        }
    }
}
