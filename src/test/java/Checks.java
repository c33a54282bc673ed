/** Counts and prints the answers that are not the ones that are due; what every test ends with. */
final class Checks {
    private int made = 0;
    private int wrong = 0;

    void due(String call, long got, long want) {
        made++;
        if (got != want) {
            wrong++;
            System.out.println(call + " answered " + got + ", due is " + want);
        }
    }

    void holds(String what, boolean holds) {
        made++;
        if (!holds) {
            wrong++;
            System.out.println("does not hold: " + what);
        }
    }

    /** A test that checked nothing counts as failed. */
    void end() {
        if (wrong != 0 || made == 0) {
            System.out.println(wrong + " of " + made + " checks are wrong");
            System.exit(1);
        }
    }
}
