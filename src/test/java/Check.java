/** Compares answers with those that are due, and ends a test. */
final class Check {
    private static int compared = 0;
    private static int wrong = 0;

    private Check() {
    }

    static void due(String call, long got, long want) {
        compared++;
        if (got != want) {
            wrong++;
            System.out.println(call + " answered " + got + ", due is " + want);
        }
    }

    static void due(String call, boolean got, boolean want) {
        due(call, got ? 1 : 0, want ? 1 : 0);
    }

    static int wrong() {
        return wrong;
    }

    /** The last call of a test: exit code 1 if an answer was wrong, or none was compared. */
    static void end() {
        System.out.println(compared + " answers compared, " + wrong + " wrong");
        if (wrong > 0 || compared == 0) {
            System.exit(1);
        }
    }
}
