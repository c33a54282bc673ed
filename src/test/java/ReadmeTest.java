import java.io.IOException;
import java.nio.file.Files;
import java.nio.file.Path;
import java.util.ArrayList;
import java.util.List;
import java.util.Set;
import java.util.TreeSet;
import java.util.regex.Matcher;
import java.util.regex.Pattern;

/** Makes the run of calls that README.md shows, read from the file itself, and compares the answers shown there. */
public final class ReadmeTest {
    private static final Pattern MAKING = Pattern.compile(
            "SyndromeEmbedder x = new SyndromeEmbedder\\((-?\\d+), (-?\\d+)\\);\\s*(//.*)?");
    private static final Pattern CALL = Pattern.compile("x\\.(\\w+)\\((.*)\\);\\s*// (.+)");
    private static final Pattern ANSWER = Pattern.compile("(-?\\d+|[A-Z_]+)(:.*)?");
    private static final Checks CHECKS = new Checks();

    public static void main(String[] args) throws IOException, ReflectiveOperationException {
        List<String> lines = shownRun(Files.readAllLines(Path.of("README.md")));
        CHECKS.holds("README.md shows a run of calls", lines.size() > 1);
        if (!lines.isEmpty()) {
            makeCalls(lines);
        }
        CHECKS.end();
    }

    private static List<String> shownRun(List<String> readme) {
        List<String> shown = new ArrayList<>();
        int start = readme.indexOf("```java");
        for (int line = start + 1; start >= 0 && !readme.get(line).equals("```"); line++) {
            shown.add(readme.get(line));
        }
        return shown;
    }

    private static void makeCalls(List<String> lines) throws ReflectiveOperationException {
        Matcher making = MAKING.matcher(lines.get(0));
        if (!making.matches()) {
            CHECKS.holds("the run begins with a new object: " + lines.get(0), false);
            return;
        }
        int height = Integer.parseInt(making.group(1));
        int width = Integer.parseInt(making.group(2));
        SyndromeEmbedder x = new SyndromeEmbedder(height, width);
        Set<String> made = new TreeSet<>();
        for (String line : lines.subList(1, lines.size())) {
            made.add(makeCall(x, line));
        }
        CHECKS.due("methods that the run uses", made.size(), 16);
    }

    private static String makeCall(SyndromeEmbedder x, String line) throws ReflectiveOperationException {
        Matcher call = CALL.matcher(line);
        if (!call.matches()) {
            CHECKS.holds("a line of the run is a call with its answer: " + line, false);
            return "";
        }
        String name = call.group(1);
        if (name.equals("clear")) {
            CHECKS.holds("clear takes no argument: " + line, call.group(2).isEmpty());
            x.clear();
        } else {
            CHECKS.due(line, answer(x, name, call.group(2)), shownAnswer(line, call.group(3)));
        }
        return name;
    }

    private static int answer(SyndromeEmbedder x, String name, String list) throws ReflectiveOperationException {
        String[] words = list.isEmpty() ? new String[0] : list.split(", ");
        Class<?>[] types = new Class<?>[words.length];
        Object[] values = new Object[words.length];
        for (int i = 0; i < words.length; i++) {
            types[i] = int.class;
            values[i] = argument(words[i]);
        }
        return (Integer) SyndromeEmbedder.class.getMethod(name, types).invoke(x, values);
    }

    /** In an argument a constant needs the name of the class before it, or the run would not compile. */
    private static int argument(String word) throws ReflectiveOperationException {
        String prefix = "SyndromeEmbedder.";
        return word.startsWith(prefix) ? constant(word.substring(prefix.length())) : Integer.parseInt(word);
    }

    private static int shownAnswer(String line, String comment) throws ReflectiveOperationException {
        Matcher answer = ANSWER.matcher(comment);
        if (!answer.matches()) {
            CHECKS.holds("the comment begins with the answer: " + line, false);
            return Integer.MIN_VALUE;
        }
        String word = answer.group(1);
        return Character.isUpperCase(word.charAt(0)) ? constant(word) : Integer.parseInt(word);
    }

    private static int constant(String name) throws ReflectiveOperationException {
        return SyndromeEmbedder.class.getField(name).getInt(null);
    }
}
