/** Counts answers that are not the ones that are due. */
final class Check {
    private int looked;
    private int wrong;

    void due(String call, long got, long want) {
        looked++;
        if (got != want) {
            wrong++;
            System.out.println(call + " answered " + got + ", due is " + want);
        }
    }

    void holds(String what, boolean holds) {
        looked++;
        if (!holds) {
            wrong++;
            System.out.println("does not hold: " + what);
        }
    }

    int looked() {
        return looked;
    }

    int wrongs() {
        return wrong;
    }

    void finish() {
        if (wrong > 0) {
            System.exit(1);
        }
    }
}
