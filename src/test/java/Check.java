/** Counts the answers of a test that are not the ones that are due. */
final class Check {
    private int wrong = 0;
    private int count = 0;

    void due(String what, long got, long want) {
        count++;
        if (got != want) {
            wrong++;
            System.out.println(what + " answered " + got + ", due is " + want);
        }
    }

    void due(String what, boolean got, boolean want) { due(what, got ? 1 : 0, want ? 1 : 0); }

    boolean hasFailed() { return wrong > 0; }

    void end(String name) {
        System.out.println(name + ": " + count + " answers, " + wrong + " wrong");
        if (wrong > 0) System.exit(1);
    }
}
