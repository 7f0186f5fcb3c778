/** Compares answers with those that are due, and tells the ones that differ. */
final class Check {
    private static final int MOST_TOLD = 20;
    private static int wrong = 0;
    private static int looked = 0;

    private Check() {
    }

    static void due(String what, int got, int want) {
        looked++;
        if (got != want) {
            wrong++;
            if (wrong <= MOST_TOLD) {
                System.out.println(what + " answered " + got + ", due is " + want);
            }
        }
    }

    static void due(String what, boolean got, boolean want) {
        due(what, got ? 1 : 0, want ? 1 : 0);
    }

    static void end() {
        System.out.println(looked + " answers, " + wrong + " not as due");
        if (wrong != 0) {
            System.exit(1);
        }
    }
}
