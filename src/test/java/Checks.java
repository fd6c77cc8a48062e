/** Counts and prints the answers that are not due; every test ends through finish. */
final class Checks {
    static final int[] TOO_SMALL = {-1, -2, -3, -40, Integer.MIN_VALUE};
    static final int[] TOO_LARGE = {3, 4, 6, 40, Integer.MAX_VALUE};
    static final int[] NO_MEMBERS = {-1, 3, 4, -3, Integer.MIN_VALUE, Integer.MAX_VALUE};

    private int wrong = 0;

    void due(String call, long got, long want) {
        if (got != want) {
            wrong++;
            System.out.println(call + " answered " + got + ", due is " + want);
        }
    }

    void due(String what, String got, String want) {
        if (!got.equals(want)) {
            wrong++;
            System.out.println(what + " is " + got + ", due is " + want);
        }
    }

    /** One boundary case, named by what the document says of it; it fails alone, also by throwing. */
    void edge(String words, Runnable body) {
        int before = wrong;
        try {
            body.run();
        } catch (RuntimeException thrown) {
            wrong++;
            System.out.println("thrown: " + thrown);
        }
        if (wrong != before) {
            System.out.println("broken: " + words);
        }
    }

    void finish() {
        if (wrong != 0) {
            System.exit(1);
        }
    }
}
