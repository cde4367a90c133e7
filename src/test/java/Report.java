/** Tells of each case of a test program in one line: whether all answers were as due. */
final class Report {
    private static final int MOST_LINES = 10;

    private String name = "";
    private int wrong;
    private boolean failed;

    void begin(String caseName) {
        name = caseName;
        wrong = 0;
    }

    void due(String call, long got, long want) {
        if (got != want) {
            tell(call + " answered " + got + ", due is " + want);
        }
    }

    void holds(String what, boolean so) {
        if (!so) {
            tell("does not hold: " + what);
        }
    }

    private void tell(String line) {
        wrong++;
        if (wrong <= MOST_LINES) {
            System.out.println("  " + name + ": " + line);
        }
    }

    void end() {
        failed |= wrong > 0;
        System.out.println((wrong == 0 ? "pass " : "FAIL ") + name);
    }

    void exit() {
        System.exit(failed ? 1 : 0);
    }
}
