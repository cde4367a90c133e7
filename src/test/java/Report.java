import java.util.function.IntToLongFunction;

/** Tells of each case of a test program in one line: whether all answers were as due. */
final class Report {
    private static final int MOST_LINES = 10;

    private String name = "";
    private int wrong;
    private boolean failed;

    /** A case of its own; what it throws is wrong too. */
    void test(String caseName, Runnable body) {
        begin(caseName);
        try {
            body.run();
        } catch (RuntimeException thrown) {
            tell("threw " + thrown);
        }
        end();
    }

    void begin(String caseName) {
        name = caseName;
        wrong = 0;
    }

    void due(String call, long got, long want) {
        if (got != want) {
            tell(call + " answered " + got + ", due is " + want);
        }
    }

    void same(String what, String got, String want) {
        if (!got.equals(want)) {
            tell(what + " told <" + got + ">, due is <" + want + ">");
        }
    }

    void holds(String what, boolean so) {
        if (!so) {
            tell("does not hold: " + what);
        }
    }

    /** Each of these numbers is refused. */
    void none(String call, IntToLongFunction asked, int... numbers) {
        for (int number : numbers) {
            due(call + " of " + number, asked.applyAsLong(number), LadderLots.NONE);
        }
    }

    /** The numbers from the first to the last have an answer, those around them have none. */
    void span(String call, IntToLongFunction asked, int first, int last) {
        for (int number : new int[] {first, first + (last - first) / 2, last}) {
            holds(call + " of " + number + " has an answer",
                    asked.applyAsLong(number) != LadderLots.NONE);
        }
        none(call, asked, first - 1, last + 1, -1, Integer.MIN_VALUE, Integer.MAX_VALUE,
                last + 65536, last + (1 << 30));
    }

    private void tell(String line) {
        wrong++;
        if (wrong <= MOST_LINES) {
            System.out.println("  " + name + ": " + line);
        }
    }

    void end() {
        failed |= wrong > 0;
        System.out.println((wrong == 0 ? "pass " : "FAIL ") + name);
    }

    void exit() {
        System.exit(failed ? 1 : 0);
    }
}
