import java.util.TreeSet;

/** Arguments for the edges: just outside a range, far outside it, and those that wrap around into it. */
final class Ints {
    private static final int[] FAR = {Integer.MIN_VALUE, Integer.MIN_VALUE + 1, -65536, -1024, -1001, -1000, -256,
        -32, -31, -11, -10, -6, -5, -4, -3, -2, -1, 0, 1, 2, 3, 4, 5, 7, 8, 9, 10, 11, 15, 16, 17, 31, 32, 33, 64,
        255, 256, 999, 1000, 1001, 1002, 1024, 32768, 65535, 65536, 1 << 30, Integer.MAX_VALUE - 1,
        Integer.MAX_VALUE};
    // An int cut to its low 5, 8 or 16 bits, or robbed of its sign, must not pass for one in the range.
    private static final int[] WRAPS = {32, 64, 256, 65536, 1 << 30, Integer.MIN_VALUE};

    private Ints() {
    }

    static int[] any() {
        return FAR.clone();
    }

    /** Ints outside least..greatest; greatest may be least - 1, and then every int is outside. */
    static int[] outside(int least, int greatest) {
        TreeSet<Integer> all = new TreeSet<>();
        for (int value : FAR) {
            all.add(value);
        }
        for (int wrap : WRAPS) {
            all.add(least + wrap);
            all.add(greatest + wrap);
            all.add(least - wrap);
            all.add(greatest - wrap);
        }
        all.add(least - 1);
        all.add(greatest + 1);
        all.add(greatest + 2);
        all.removeIf(value -> value >= least && value <= greatest);
        return all.stream().mapToInt(Integer::intValue).toArray();
    }

    static int[] notBits() {
        return outside(0, 1);
    }

    static int[] notCosts() {
        return outside(-1, 1000);
    }
}
