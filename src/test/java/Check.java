/** Counts answers that are not the ones that are due. */
final class Check {
    private int wrong;

    void due(String call, long got, long want) {
        if (got != want) {
            wrong++;
            System.out.println(call + " answered " + got + ", due is " + want);
        }
    }

    void holds(String what, boolean holds) {
        if (!holds) {
            wrong++;
            System.out.println("does not hold: " + what);
        }
    }

    int wrongs() {
        return wrong;
    }

    void finish() {
        if (wrong > 0) {
            System.exit(1);
        }
    }
}
