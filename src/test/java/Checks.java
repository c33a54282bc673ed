import java.util.List;
import java.util.function.Consumer;
import java.util.function.Supplier;

/** Counts and prints the answers that are not the ones that are due; what every test ends with. */
final class Checks {
    private int made = 0;
    private int wrong = 0;
    private int madeBefore = 0;
    private String sentence = "";

    /** The checks from here to the next sentence are the test of this sentence of the document. */
    void sentence(String place, String words) {
        closeSentence();
        sentence = "[" + place + ": " + words + "] ";
    }

    void due(String call, long got, long want) {
        made++;
        if (got != want) {
            wrong++;
            System.out.println(sentence + call + " answered " + got + ", due is " + want);
        }
    }

    void holds(String what, boolean holds) {
        made++;
        if (!holds) {
            wrong++;
            System.out.println(sentence + "does not hold: " + what);
        }
    }

    /** Two transcripts; only the first line in which they differ is printed. */
    void same(String when, List<String> got, List<String> want) {
        made++;
        if (!got.equals(want)) {
            wrong++;
            int line = 0;
            while (line < got.size() && line < want.size() && got.get(line).equals(want.get(line))) {
                line++;
            }
            String gotLine = line < got.size() ? got.get(line) : "the end";
            String wantLine = line < want.size() ? want.get(line) : "the end";
            System.out.println(sentence + when + ": " + gotLine + ", due is " + wantLine);
        }
    }

    /** An object that has had the calls tells the same as one made alike that has not. */
    void changeNothing(String when, Supplier<SyndromeEmbedder> maker, Consumer<SyndromeEmbedder> calls) {
        List<String> got = Transcript.life(() -> {
            SyndromeEmbedder x = maker.get();
            calls.accept(x);
            return x;
        });
        same(when, got, Transcript.life(maker));
    }

    /** A test that checked nothing counts as failed, and so does a sentence. */
    void end() {
        closeSentence();
        if (wrong != 0 || made == 0) {
            System.out.println(wrong + " of " + made + " checks are wrong");
            System.exit(1);
        }
    }

    private void closeSentence() {
        if (!sentence.isEmpty() && made == madeBefore) {
            wrong++;
            System.out.println(sentence + "was not checked");
        }
        madeBefore = made;
    }
}
