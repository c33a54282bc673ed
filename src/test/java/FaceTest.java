import java.lang.reflect.Constructor;
import java.lang.reflect.Field;
import java.lang.reflect.Method;
import java.lang.reflect.Modifier;
import java.util.Set;
import java.util.TreeMap;
import java.util.TreeSet;

/** The public face of the document, and that nothing else of the class can be seen (LANGUAGE.md, rules 1 and 5). */
public final class FaceTest {
    private static final Checks CHECKS = new Checks();

    public static void main(String[] args) {
        Class<?> face = SyndromeEmbedder.class;
        CHECKS.due("modifiers of the class", face.getModifiers(), Modifier.PUBLIC | Modifier.FINAL);
        CHECKS.due("nested classes", face.getDeclaredClasses().length, 0);
        checkConstants(face);
        checkConstructors(face);
        checkMethods(face);
        CHECKS.end();
    }

    private static void checkConstants(Class<?> face) {
        TreeMap<String, Integer> want = new TreeMap<>();
        want.put("OK", 0);
        want.put("WET", -1);
        want.put("BAD", -2);
        want.put("FULL", -3);
        want.put("NOT_READY", -4);
        want.put("NO_SOLUTION", -5);
        want.put("NO_RESULT", -6);
        want.put("MAX_COVER", 10);
        want.put("MAX_COST", 1000);
        TreeMap<String, Integer> got = new TreeMap<>();
        for (Field field : face.getDeclaredFields()) {
            int modifiers = field.getModifiers();
            if (!Modifier.isPrivate(modifiers)) {
                int due = Modifier.PUBLIC | Modifier.STATIC | Modifier.FINAL;
                CHECKS.due("modifiers of " + field.getName(), modifiers, due);
                CHECKS.holds(field.getName() + " is an int", field.getType() == int.class);
                got.put(field.getName(), valueOf(field));
            } else if (Modifier.isStatic(modifiers)) {
                CHECKS.holds(field.getName() + " is final", Modifier.isFinal(modifiers));
            }
        }
        CHECKS.holds("the constants are " + want + ", not " + got, want.equals(got));
    }

    private static int valueOf(Field field) {
        try {
            return field.getInt(null);
        } catch (IllegalAccessException | IllegalArgumentException e) {
            return Integer.MIN_VALUE;
        }
    }

    private static void checkConstructors(Class<?> face) {
        Constructor<?>[] all = face.getDeclaredConstructors();
        CHECKS.due("constructors", all.length, 1);
        String want = "public SyndromeEmbedder(int,int)";
        CHECKS.holds("the constructor is " + want, all[0].toString().equals(want));
    }

    private static void checkMethods(Class<?> face) {
        Set<String> want = new TreeSet<>(Set.of(
                "public int loadColumn(int,int)", "public int columnBits(int)", "public int addCover(int,int)",
                "public int setCost(int,int)", "public int addMessage(int)", "public void clear()",
                "public int coverBit(int)", "public int coverCost(int)", "public int messageBit(int)",
                "public int embed()", "public int totalCost()", "public int optimalCount()",
                "public int alteredBit(int)", "public int flip(int)", "public int extractBit(int)"));
        want.add("public int forcedCost(int,int)");
        Set<String> got = new TreeSet<>();
        for (Method method : face.getDeclaredMethods()) {
            if (!Modifier.isPrivate(method.getModifiers())) {
                got.add(method.toString().replace("SyndromeEmbedder.", ""));
            }
        }
        CHECKS.holds("the methods are " + want + ", not " + got, want.equals(got));
    }
}
