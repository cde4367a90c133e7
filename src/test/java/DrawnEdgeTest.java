import java.util.ArrayList;
import java.util.List;

/** Promises 33 to 35: rungs drawn in, each at its edges. */
public final class DrawnEdgeTest {
    private static final Report REPORT = new Report();
    private static final int MIN = Integer.MIN_VALUE;
    private static final int MAX = Integer.MAX_VALUE;
    private static final int[] ORDERS = {1, 1, 2, 6, 24, 120, 720, 5040};
    private static final String TWO_HUNDRED = "times 20{times 10{rung 0;}}";

    private static void drawn() {
        REPORT.test("33 a LADDER that is there", () -> {
            LadderLots x = Texts.with("legs 2;", "legs 2;");
            REPORT.span("drawn(t, 0, 1)", t -> x.drawn(t, 0, 1), 0, 1);
        });
        REPORT.test("33 a number and a LEG of each n", () -> {
            for (int n = 2; n <= 7; n++) {
                LadderLots x = Texts.with("legs " + n + ";rung 0;");
                REPORT.span("number", number -> x.drawn(0, number, 0), 0, n - 1);
                REPORT.span("leg", leg -> x.drawn(0, 0, leg), 0, n - 1);
            }
        });
        REPORT.test("33 -2: not PLAIN, by each other kind, of one alone", () -> {
            LadderLots x = Texts.with("legs 3;rung 0;gate 1;", "legs 3;back 0;rung 0;",
                    "legs 3;maybe 0 0 1;", "legs 3;rung 0;");
            for (int t = 0; t < 4; t++) {
                REPORT.holds("drawn(" + t + ")", x.drawn(t, 0, 2) == -2 == t < 3);
            }
        });
        REPORT.test("33 NONE is looked at ahead of -2", () -> {
            LadderLots x = Texts.with("legs 3;gate 0;");
            REPORT.none("number", number -> x.drawn(0, number, 0), -1, 3, MIN, MAX);
            REPORT.none("leg", leg -> x.drawn(0, 0, leg), -1, 3, MIN, MAX);
            REPORT.due("the last ones", x.drawn(0, 2, 2), -2);
        });
        REPORT.test("33 none where it ends, of no RUNGS and of 200", () -> {
            LadderLots x = Texts.with("legs 7;", "legs 7;" + TWO_HUNDRED, "legs 7;rung 0;rung 1;");
            for (int number = 0; number < 7; number++) {
                REPORT.due("none", x.drawn(0, number, number), 0);
                REPORT.due("200", x.drawn(1, number, number), 0);
                REPORT.due("its end", x.drawn(2, number, x.ends(2, 0, 0, number)), 0);
            }
        });
        REPORT.test("33 as many as from one side to the other: 6", () -> {
            LadderLots x = Texts.with("legs 7;");
            for (int leg = 0; leg < 7; leg++) {
                REPORT.due("0 to " + leg, x.drawn(0, 0, leg), leg);
                REPORT.due("6 to " + leg, x.drawn(0, 6, leg), 6 - leg);
            }
        });
        REPORT.test("33 RUNGS that are there lead for nothing", () -> {
            LadderLots x = Texts.with("legs 7;rung 0;rung 1;rung 2;rung 3;rung 4;rung 5;",
                    "legs 7;rung 5;rung 4;rung 3;rung 2;rung 1;rung 0;");
            REPORT.due("0 to 6", x.drawn(0, 0, 6), 0);
            REPORT.due("1 to 6", x.drawn(0, 1, 6), 1);
            REPORT.due("0 to 0", x.drawn(0, 0, 0), 1);
            REPORT.due("6 to 6", x.drawn(0, 6, 6), 1);
            REPORT.due("6 to 0", x.drawn(1, 6, 0), 0);
        });
    }

    private static void rungs() {
        REPORT.test("34 a LADDER that is there", () -> {
            LadderLots x = Texts.with("legs 2;", "legs 2;");
            REPORT.span("drawnAt(t, 0, 1, 0)", t -> x.drawnAt(t, 0, 1, 0), 0, 1);
        });
        REPORT.test("34 a number and a LEG of each n", () -> {
            for (int n = 3; n <= 7; n++) {
                LadderLots x = Texts.with("legs " + n + ";");
                REPORT.span("number", number -> x.drawnAt(0, number, 0, 0), 1, n - 1);
                REPORT.span("leg", leg -> x.drawnAt(0, 0, leg, 0), 1, n - 1);
            }
        });
        REPORT.test("34 the first to the last, of none none", () -> {
            LadderLots x = Texts.with("legs 7;");
            for (int leg = 1; leg < 7; leg++) {
                int to = leg;
                REPORT.span("drawnAt(0, 0, " + to + ", i)", i -> x.drawnAt(0, 0, to, i), 0, to - 1);
            }
            REPORT.none("drawnAt(0, 3, 3, i)", i -> x.drawnAt(0, 3, 3, i), -1, 0, 1, MIN, MAX);
        });
        REPORT.test("34 NONE of one that is not PLAIN", () -> {
            LadderLots x = Texts.with("legs 3;gate 0;", "legs 3;back 0;", "legs 3;maybe 0 1 1;");
            for (int t = 0; t < 3; t++) {
                int asked = t;
                REPORT.none("drawnAt(" + t + ", 0, 2, i)", i -> x.drawnAt(asked, 0, 2, i), -2, -1,
                        0, 1, 2);
            }
        });
        REPORT.test("34 any number at one GAP", () -> {
            LadderLots x = Texts.with("legs 7;");
            for (int i = 0; i < 6; i++) {
                REPORT.due("to the right", x.drawnAt(0, 0, 6, i), i);
                REPORT.due("to the left", x.drawnAt(0, 6, 0, i), 5 - i);
            }
        });
        REPORT.test("34 GAP 0, ahead of all", () -> {
            LadderLots x = Texts.with("legs 3;rung 0;");
            // 0 to 0, by a rung ahead of the one that is there
            REPORT.due("its rung", x.drawnAt(0, 0, 0, 0), 0);
        });
        REPORT.test("34 GAP m, behind all", () -> {
            LadderLots x = Texts.with("legs 3;rung 0;", "legs 4;rung 0;rung 1;");
            // 0 comes to 1, and to 2, behind the last rung alone
            REPORT.due("gap 1", x.drawnAt(0, 0, 2, 0), 11);
            REPORT.due("gap 2", x.drawnAt(1, 0, 3, 0), 22);
            // ahead of the last rung one to the right is led back to the left
            REPORT.due("gap 1 of 2", x.drawnAt(1, 0, 1, 0), 11);
        });
        REPORT.test("34 GAP 200 and GAP 199", () -> {
            // 0 comes to leg 1 at the 200th rung alone, and goes on behind it
            LadderLots x = Texts.with("legs 4;times 19{times 10{rung 2;}}times 9{rung 2;}rung 0;",
                    "legs 4;times 19{times 10{rung 2;}}times 8{rung 2;}rung 0;rung 2;");
            REPORT.due("drawn", x.drawn(0, 0, 2), 1);
            REPORT.due("gap 200", x.drawnAt(0, 0, 2, 0), 2001);
            REPORT.due("drawn", x.drawn(1, 0, 3), 1);
            REPORT.due("gap 199", x.drawnAt(1, 0, 3, 0), 1991);
        });
        REPORT.test("34 the lesser GAP ahead of the lesser LEG", () -> {
            LadderLots x = Texts.with("legs 4;rung 2;rung 0;");
            // 1 to 1: the rung 0 leads it off, by 0 at gap 0 it comes back
            REPORT.due("1 to 1", x.drawn(0, 1, 1), 1);
            REPORT.due("its rung", x.drawnAt(0, 1, 1, 0), 0);
            List<Integer> due = Naive.drawn(new Naive.Ladder(4, List.of(
                    new Naive.Element(0, 2, 0, 0), new Naive.Element(0, 0, 0, 0))), 2, 2);
            REPORT.due("2 to 2", x.drawn(0, 2, 2), due.size());
            REPORT.due("its rung", x.drawnAt(0, 2, 2, 0), due.get(0));
        });
        REPORT.test("34 the lesser LEG at one GAP: to the left first", () -> {
            // from 1 by rung 0 or by rung 1, each leads to 3 with one more
            for (String rungs : new String[] {"rung 0;rung 1;rung 2;", "rung 1;rung 0;",
                "rung 1;rung 2;rung 0;rung 1;"}) {
                LadderLots x = Texts.with("legs 4;" + rungs);
                Naive.Ladder ladder = plain(4, rungs);
                for (int at = 0; at < 16; at++) {
                    List<Integer> due = Naive.drawn(ladder, at / 4, at % 4);
                    REPORT.due("drawn", x.drawn(0, at / 4, at % 4), due.size());
                    for (int i = 0; i < due.size(); i++) {
                        REPORT.due("drawnAt", x.drawnAt(0, at / 4, at % 4, i), due.get(i));
                    }
                }
            }
        });
        REPORT.test("34 another one's RUNGS are told, whatever was asked ahead", () -> {
            LadderLots x = Texts.with("legs 7;", "legs 7;rung 0;rung 1;rung 2;");
            x.drawn(1, 6, 0);
            REPORT.due("drawnAt(0, 0, 1, 0)", x.drawnAt(0, 0, 1, 0), 0);
            x.drawn(0, 3, 0);
            REPORT.due("drawnAt(1, 0, 4, 0)", x.drawnAt(1, 0, 4, 0), 33);
        });
    }

    private static Naive.Ladder plain(int legs, String rungs) {
        List<Naive.Element> elements = new ArrayList<>();
        for (String rung : rungs.split(";")) {
            elements.add(new Naive.Element(0, rung.charAt(5) - '0', 0, 0));
        }
        return new Naive.Ladder(legs, elements);
    }

    private static void all() {
        REPORT.test("35 a LADDER that is there", () -> {
            LadderLots x = Texts.with("legs 2;", "legs 2;");
            REPORT.span("drawnAll(t, 1)", t -> x.drawnAll(t, 1), 0, 1);
        });
        REPORT.test("35 an ORDER of 0 up to the last of each n", () -> {
            for (int n = 2; n <= 7; n++) {
                LadderLots x = Texts.with("legs " + n + ";rung 0;");
                REPORT.span("drawnAll of " + n, order -> x.drawnAll(0, order), 0, ORDERS[n] - 1);
            }
        });
        REPORT.test("35 -3: 5 LEGS are allowed, 6 and 7 are not", () -> {
            LadderLots x = Texts.with("legs 5;", "legs 6;", "legs 7;rung 5;");
            REPORT.due("5 legs", x.drawnAll(0, 119), 10);
            REPORT.due("6 legs", x.drawnAll(1, 0), -3);
            REPORT.due("6 legs", x.drawnAll(1, 719), -3);
            REPORT.due("7 legs", x.drawnAll(2, 5039), -3);
        });
        REPORT.test("35 -2: not PLAIN, ahead of -3", () -> {
            LadderLots x = Texts.with("legs 5;gate 0;", "legs 6;back 0;", "legs 7;maybe 0 1 1;",
                    "legs 2;maybe 0 0 1;");
            for (int t = 0; t < 4; t++) {
                REPORT.due("drawnAll(" + t + ")", x.drawnAll(t, 1), -2);
            }
        });
        REPORT.test("35 NONE ahead of -2 and -3", () -> {
            LadderLots x = Texts.with("legs 3;gate 0;", "legs 6;", "legs 6;gate 0;");
            REPORT.none("-2", order -> x.drawnAll(0, order), -1, 6, MIN, MAX);
            REPORT.none("-3", order -> x.drawnAll(1, order), -1, 720, MIN, MAX);
            REPORT.none("-2 and -3", order -> x.drawnAll(2, order), -1, 720, MIN, MAX);
            REPORT.none("no such one", t -> x.drawnAll(t, 0), -1, 3, MIN, MAX);
        });
        REPORT.test("35 without RUNGS as many as a LEAST LADDER has", () -> {
            for (int n = 2; n <= 5; n++) {
                LadderLots x = Texts.with("legs " + n + ";");
                for (int order = 0; order < ORDERS[n]; order++) {
                    REPORT.due("drawnAll", x.drawnAll(0, order), x.fewest(n, order));
                }
            }
        });
        REPORT.test("35 none for its own END, of 200 RUNGS too", () -> {
            LadderLots x = Texts.with("legs 5;rung 0;rung 3;rung 1;", "legs 2;" + TWO_HUNDRED,
                    "legs 5;times 10{rung 0;rung 1;rung 2;rung 3;rung 1;rung 0;rung 2;rung 1;"
                    + "rung 3;rung 2;rung 0;rung 3;rung 0;rung 1;rung 0;rung 2;rung 3;rung 1;"
                    + "rung 0;rung 2;}");
            for (int t = 0; t < 3; t++) {
                REPORT.due("elements", x.ladder(t, 1), t == 0 ? 3 : 200);
                REPORT.due("drawnAll(" + t + ")", x.drawnAll(t, x.down(t, 0, 0)), 0);
            }
            REPORT.due("the other end", x.drawnAll(1, 1), 1);
        });
        REPORT.test("35 a RUNG between two that are there", () -> {
            // 0 1 0 as it is makes 2 1 0; one less is two drawn in, or one
            LadderLots x = Texts.with("legs 3;rung 0;rung 1;rung 0;", "legs 3;rung 0;rung 0;");
            for (int t = 0; t < 2; t++) {
                Naive.Ladder ladder = plain(3, t == 0 ? "rung 0;rung 1;rung 0;" : "rung 0;rung 0;");
                for (int order = 0; order < 6; order++) {
                    REPORT.due("drawnAll", x.drawnAll(t, order), Naive.drawnAll(ladder, order));
                }
            }
        });
        REPORT.test("35 asked of one LADDER and another by turns", () -> {
            LadderLots x = Texts.with("legs 3;rung 0;", "legs 3;rung 1;");
            for (int round = 0; round < 3; round++) {
                REPORT.due("the first", x.drawnAll(0, 2), 0);
                REPORT.due("the second", x.drawnAll(1, 2), 2);
            }
            x.clear();
            x.lots(1, 3, 0, false);
            REPORT.due("a new one", x.drawnAll(0, 2), 1);
        });
    }

    public static void main(String[] args) {
        drawn();
        rungs();
        all();
        REPORT.exit();
    }
}
