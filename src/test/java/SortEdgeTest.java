import java.util.ArrayList;
import java.util.List;
import java.util.function.IntToLongFunction;

/** Promises 36 to 44: what ladders sort, what is idle in them, what mends them, at its edges. */
public final class SortEdgeTest {
    private static final Report REPORT = new Report();
    private static final int MIN = Integer.MIN_VALUE;
    private static final int MAX = Integer.MAX_VALUE;
    private static final int[] ORDERS = {1, 1, 2, 6, 24, 120, 720, 5040};

    /** The text of a ladder of as few gates as can be that sorts n legs. */
    private static String sorter(int n) {
        StringBuilder text = new StringBuilder("legs " + n + ";");
        for (int last = 0; last + 1 < n; last++) {
            for (int leg = last; leg >= 0; leg--) {
                text.append("gate ").append(leg).append(';');
            }
        }
        return text.toString();
    }

    /** Something is asked of a ladder. */
    private interface OfLadder {
        long ask(LadderLots x, int t);
    }

    private static void ofLadders(String number, String call, OfLadder asked) {
        REPORT.test(number + " a LADDER that is there", () -> {
            LadderLots x = Texts.with("legs 2;rung 0;", "legs 2;rung 0;");
            REPORT.span(call, t -> asked.ask(x, t), 0, 1);
            REPORT.none(call + " of none", t -> asked.ask(new LadderLots(), t), -1, 0, 1);
        });
        REPORT.test(number + " -2: it has MAYBES, one is enough, there or not", () -> {
            LadderLots x = Texts.with("legs 2;maybe 0 0 1;", "legs 2;gate 0;maybe 0 1 1;",
                    "legs 3;maybe 1 1 2;gate 0;gate 1;gate 0;", "legs 7;times 20{maybe 5 4 4;}",
                    sorter(3));
            for (int t = 0; t < 4; t++) {
                REPORT.due(call + " of " + t, asked.ask(x, t), -2);
            }
            REPORT.holds("without", asked.ask(x, 4) != -2);
        });
    }

    private static void sorting() {
        ofLadders("36", "sorts", LadderLots::sorts);
        REPORT.test("36 no ELEMENTS sort nothing, of 2 LEGS and of 7", () -> {
            LadderLots x = Texts.with("legs 2;", "legs 7;");
            REPORT.due("sorts(0)", x.sorts(0), 0);
            REPORT.due("sorts(1)", x.sorts(1), 0);
        });
        REPORT.test("36 the fewest gates that sort n LEGS, and one less", () -> {
            for (int n = 2; n <= 7; n++) {
                String text = sorter(n);
                LadderLots x = Texts.with(text, text.replaceFirst("gate 0;", ""),
                        text.replaceFirst("gate 0;$", ""));
                REPORT.due("sorts " + n, x.sorts(0), 1);
                REPORT.due("without the first", x.sorts(1), 0);
                REPORT.due("without the last", x.sorts(2), 0);
            }
        });
        REPORT.test("36 by a BACK and a RUNG, and not by one alone", () -> {
            LadderLots x = Texts.with("legs 2;back 0;rung 0;", "legs 2;back 0;", "legs 2;rung 0;",
                    "legs 2;rung 0;rung 0;gate 0;");
            int[] due = {1, 0, 0, 1};
            for (int t = 0; t < 4; t++) {
                REPORT.due("sorts(" + t + ")", x.sorts(t), due[t]);
            }
        });
        REPORT.test("36 the last of 200 ELEMENTS counts", () -> {
            String gates = "times 20{gate 0;gate 1;gate 0;gate 1;gate 0;gate 1;gate 0;gate 1;"
                    + "gate 0;}times 19{gate 0;}";
            LadderLots x = Texts.with("legs 3;" + gates + "gate 0;", "legs 3;" + gates + "rung 0;");
            REPORT.due("elements", x.ladder(0, 1), 200);
            REPORT.due("sorts(0)", x.sorts(0), 1);
            REPORT.due("sorts(1)", x.sorts(1), 0);
        });
        ofLadders("37", "unsorted", LadderLots::unsorted);
        REPORT.test("37 none of one that SORTS, all but one of none, all of some", () -> {
            for (int n = 2; n <= 7; n++) {
                LadderLots x = Texts.with(sorter(n), "legs " + n + ";", sorter(n) + "rung 0;",
                        "legs " + n + ";rung 0;");
                REPORT.due("of a sorter", x.unsorted(0), 0);
                REPORT.due("of none", x.unsorted(1), ORDERS[n] - 1);
                REPORT.due("of a rung behind a sorter", x.unsorted(2), ORDERS[n]);
                REPORT.due("of a rung", x.unsorted(3), ORDERS[n] - 1);
            }
        });
        REPORT.test("37 a gate leaves all but two", () -> {
            for (int n = 2; n <= 7; n++) {
                LadderLots x = Texts.with("legs " + n + ";gate 0;", "legs " + n + ";gate "
                        + (n - 2) + ";", "legs " + n + ";back " + (n - 2) + ";");
                REPORT.due("the first gate", x.unsorted(0), ORDERS[n] - 2);
                REPORT.due("the last gate", x.unsorted(1), ORDERS[n] - 2);
                REPORT.due("the last back", x.unsorted(2), ORDERS[n]);
            }
        });
    }

    private static void failing() {
        ofLadders("38", "fails", LadderLots::fails);
        REPORT.test("38 none of one that SORTS, all but n + 1 of none", () -> {
            for (int n = 2; n <= 7; n++) {
                LadderLots x = Texts.with(sorter(n), "legs " + n + ";");
                REPORT.due("of a sorter", x.fails(0), 0);
                REPORT.due("of none", x.fails(1), (1 << n) - n - 1);
            }
        });
        REPORT.test("38 zeros alone and ones alone never fail", () -> {
            for (int n = 2; n <= 7; n++) {
                LadderLots x = Texts.with(sorter(n) + "times 1{rung 0;}", "legs " + n
                        + ";times 3{back 0;back " + (n - 2) + ";}");
                REPORT.holds("fails(0)", x.fails(0) <= (1 << n) - 2);
                REPORT.holds("fails(1)", x.fails(1) <= (1 << n) - 2);
                REPORT.holds("firstFail(1)", x.firstFail(1) > 0);
            }
        });
        REPORT.test("38 all others fail behind a sorter of backs", () -> {
            for (int n = 2; n <= 7; n++) {
                LadderLots x = Texts.with(sorter(n).replace("gate", "back"));
                REPORT.due("fails(0)", x.fails(0), (1 << n) - 2);
                REPORT.due("firstFail(0)", x.firstFail(0), 1);
            }
        });
        ofLadders("39", "firstFail", LadderLots::firstFail);
        REPORT.test("39 -3: all are sorted", () -> {
            for (int n = 2; n <= 7; n++) {
                LadderLots x = Texts.with(sorter(n));
                REPORT.due("firstFail(0)", x.firstFail(0), -3);
            }
        });
        REPORT.test("39 -2 ahead of -3, NONE ahead of both", () -> {
            LadderLots x = Texts.with(sorter(4) + "maybe 0 0 1;");
            REPORT.due("firstFail(0)", x.firstFail(0), -2);
            REPORT.due("firstFail(1)", x.firstFail(1), -1);
        });
        REPORT.test("39 bit i is on LEG i: the least is a one on LEG 0", () -> {
            for (int n = 2; n <= 7; n++) {
                LadderLots x = Texts.with("legs " + n + ";");
                REPORT.due("firstFail(0)", x.firstFail(0), 1);
            }
        });
        REPORT.test("39 the BIT ROW that goes down, not that at the bottom", () -> {
            for (int n = 2; n <= 7; n++) {
                List<Naive.Element> rungs = new ArrayList<>();
                StringBuilder text = new StringBuilder("legs " + n + ";");
                for (int leg = n - 2; leg >= 0; leg--) {
                    rungs.add(new Naive.Element(Naive.RUNG, leg, 0, 0));
                    text.append("rung ").append(leg).append(';');
                }
                LadderLots x = Texts.with(text.toString());
                List<Integer> failing = Naive.fails(new Naive.Ladder(n, rungs));
                REPORT.due("firstFail(0)", x.firstFail(0), failing.get(0));
                REPORT.due("fails(0)", x.fails(0), failing.size());
            }
        });
        REPORT.test("39 a BIT ROW of 64 or more is the first", () -> {
            LadderLots x = Texts.with("legs 7;rung 5;rung 4;rung 3;rung 2;rung 1;rung 0;"
                    + "times 6{gate 5;gate 4;gate 3;gate 2;gate 1;}gate 0;gate 1;gate 2;gate 3;"
                    + "gate 4;");
            REPORT.due("firstFail(0)", x.firstFail(0), 64);
            REPORT.due("fails(0)", x.fails(0), 1);
            REPORT.due("sorts(0)", x.sorts(0), 0);
        });
        REPORT.test("39 a BIT ROW of 63 is the first", () -> {
            // six ones left of a zero: leg 6 is never looked at from leg 5
            LadderLots x = Texts.with("legs 7;times 6{gate 0;gate 1;gate 2;gate 3;gate 4;}"
                    + "gate 5;gate 4;gate 3;gate 2;gate 1;");
            REPORT.due("firstFail(0)", x.firstFail(0), 63);
            REPORT.due("fails(0)", x.fails(0), 1);
        });
    }

    /** Something is asked of an element of a ladder. */
    private interface OfElement {
        long ask(LadderLots x, int t, int i);
    }

    private static void ofElements(String number, String call, OfElement asked) {
        ofLadders(number, call, (x, t) -> asked.ask(x, t, 0));
        REPORT.test(number + " the first ELEMENT to the last", () -> {
            LadderLots x = Texts.with("legs 2;gate 0;", sorter(7),
                    "legs 2;times 20{times 10{gate 0;}}");
            IntToLongFunction ofLast = i -> asked.ask(x, 2, i);
            REPORT.span(call + " of 1", i -> asked.ask(x, 0, i), 0, 0);
            REPORT.span(call + " of 21", i -> asked.ask(x, 1, i), 0, 20);
            REPORT.span(call + " of 200", ofLast, 0, 199);
        });
        REPORT.test(number + " NONE of no ELEMENTS", () -> {
            LadderLots x = Texts.with("legs 5;");
            REPORT.none(call, i -> asked.ask(x, 0, i), -1, 0, 1, MIN, MAX);
        });
        REPORT.test(number + " NONE is looked at ahead of -2", () -> {
            LadderLots x = Texts.with("legs 5;maybe 0 1 1;gate 3;");
            REPORT.none(call, i -> asked.ask(x, 0, i), -1, 2, 3, MIN, MAX);
            REPORT.due("of the last", asked.ask(x, 0, 1), -2);
        });
    }

    private static void idling() {
        ofElements("40", "idle", LadderLots::idle);
        REPORT.test("40 a RUNG is never IDLE", () -> {
            for (int n = 2; n <= 7; n++) {
                LadderLots x = Texts.with(sorter(n) + "rung 0;rung " + (n - 2) + ";");
                int many = x.ladder(0, 1);
                REPORT.due("the last", x.idle(0, many - 1), 0);
                REPORT.due("the last but one", x.idle(0, many - 2), 0);
            }
        });
        REPORT.test("40 the first GATE, and BACK, are not", () -> {
            for (int n = 2; n <= 7; n++) {
                LadderLots x = Texts.with("legs " + n + ";gate " + (n - 2) + ";gate " + (n - 2)
                        + ";", "legs " + n + ";back " + (n - 2) + ";back " + (n - 2) + ";");
                for (int t = 0; t < 2; t++) {
                    REPORT.due("the first", x.idle(t, 0), 0);
                    REPORT.due("the second", x.idle(t, 1), 1);
                }
            }
        });
        REPORT.test("40 all GATES behind a sorter are, its own are not", () -> {
            for (int n = 2; n <= 7; n++) {
                LadderLots x = Texts.with(sorter(n) + "gate 0;gate " + (n - 2) + ";back 0;");
                int own = n * (n - 1) / 2;
                for (int i = 0; i < own; i++) {
                    REPORT.due("its own " + i, x.idle(0, i), 0);
                }
                REPORT.due("a gate behind", x.idle(0, own), 1);
                REPORT.due("another behind", x.idle(0, own + 1), 1);
                REPORT.due("a back behind", x.idle(0, own + 2), 0);
            }
        });
        REPORT.test("40 what is below it changes nothing of that", () -> {
            LadderLots x = Texts.with("legs 3;gate 0;back 0;gate 0;");
            REPORT.due("idle(0, 0)", x.idle(0, 0), 0);
            REPORT.due("idle(0, 1)", x.idle(0, 1), 0);
            REPORT.due("idle(0, 2)", x.idle(0, 2), 0);
        });
        REPORT.test("40 one ORDER of all is enough to be not IDLE", () -> {
            String text = sorter(7).replaceFirst("gate 0;$", "");
            LadderLots x = Texts.with(text + "gate 0;gate 0;");
            REPORT.due("the last of the sorter", x.idle(0, 20), 0);
            REPORT.due("behind it", x.idle(0, 21), 1);
        });
    }

    private static void needing() {
        ofElements("41", "needed", LadderLots::needed);
        REPORT.test("41 each of the fewest is", () -> {
            for (int n = 2; n <= 7; n++) {
                LadderLots x = Texts.with(sorter(n));
                for (int i = 0; i < n * (n - 1) / 2; i++) {
                    REPORT.due("needed " + i + " of " + n, x.needed(0, i), 1);
                }
            }
        });
        REPORT.test("41 none that is there twice, one behind the other", () -> {
            LadderLots x = Texts.with("legs 2;gate 0;gate 0;", "legs 2;gate 0;back 0;gate 0;");
            REPORT.due("needed(0, 0)", x.needed(0, 0), 0);
            REPORT.due("needed(0, 1)", x.needed(0, 1), 0);
            REPORT.due("needed(1, 0)", x.needed(1, 0), 0);
            REPORT.due("needed(1, 1)", x.needed(1, 1), 0);
            REPORT.due("needed(1, 2)", x.needed(1, 2), 1);
        });
        REPORT.test("41 of one that does not SORT, with it or without", () -> {
            LadderLots x = Texts.with("legs 3;gate 0;", "legs 2;gate 0;rung 0;");
            REPORT.due("without it neither", x.needed(0, 0), 1);
            REPORT.due("without it it sorts", x.needed(1, 1), 0);
            REPORT.due("without the gate", x.needed(1, 0), 1);
        });
        REPORT.test("41 the first and the last of 200", () -> {
            LadderLots x = Texts.with("legs 2;times 19{times 10{rung 0;}}times 9{rung 0;}gate 0;",
                    "legs 2;gate 0;times 19{times 10{rung 0;}}times 9{rung 0;}");
            REPORT.due("a rung", x.needed(0, 0), 0);
            REPORT.due("the gate", x.needed(0, 199), 1);
            REPORT.due("the gate", x.needed(1, 0), 1);
            REPORT.due("a rung", x.needed(1, 199), 0);
        });
    }

    private static void mending() {
        ofLadders("42", "mend", LadderLots::mend);
        REPORT.test("42 none of one that SORTS, the most of none", () -> {
            for (int n = 2; n <= 5; n++) {
                LadderLots x = Texts.with(sorter(n), "legs " + n + ";",
                        sorter(n).replace("gate", "back"), sorter(n) + "rung 0;");
                REPORT.due("of a sorter", x.mend(0), 0);
                REPORT.due("of none", x.mend(1), n * (n - 1) / 2);
                REPORT.due("of backs", x.mend(2), n * (n - 1) / 2);
                REPORT.due("of a rung behind", x.mend(3), 1);
            }
        });
        REPORT.test("42 -3: 5 LEGS are allowed, 6 and 7 are not", () -> {
            LadderLots x = Texts.with("legs 5;", "legs 6;", "legs 7;", sorter(6));
            int[] due = {10, -3, -3, -3};
            for (int t = 0; t < 4; t++) {
                REPORT.due("mend(" + t + ")", x.mend(t), due[t]);
            }
        });
        REPORT.test("42 -2 ahead of -3, NONE ahead of both", () -> {
            LadderLots x = Texts.with("legs 6;maybe 0 1 1;", "legs 7;gate 0;maybe 5 0 4;");
            REPORT.due("mend(0)", x.mend(0), -2);
            REPORT.due("mend(1)", x.mend(1), -2);
            REPORT.due("mend(2)", x.mend(2), -1);
        });
        REPORT.test("43 a LADDER that is there", () -> {
            LadderLots x = Texts.with("legs 2;", "legs 2;rung 0;");
            REPORT.span("mendAt(t, 0)", t -> x.mendAt(t, 0), 0, 1);
        });
        REPORT.test("43 the first gate to the last, of none none", () -> {
            for (int n = 2; n <= 5; n++) {
                LadderLots x = Texts.with("legs " + n + ";", sorter(n));
                REPORT.span("mendAt of " + n, i -> x.mendAt(0, i), 0, n * (n - 1) / 2 - 1);
                REPORT.none("mendAt of a sorter", i -> x.mendAt(1, i), -1, 0, 1, MIN, MAX);
            }
        });
        REPORT.test("43 NONE with MAYBES, and with more than 5 LEGS", () -> {
            LadderLots x = Texts.with("legs 2;maybe 0 0 1;", "legs 6;", "legs 7;maybe 0 1 1;",
                    "legs 7;");
            for (int t = 0; t < 4; t++) {
                int asked = t;
                REPORT.none("mendAt(" + t + ", i)", i -> x.mendAt(asked, i), -3, -2, -1, 0, 1, 5);
            }
        });
        REPORT.test("43 of the fewest the first: by the first one's LEG, then the second's", () -> {
            LadderLots x = Texts.with("legs 4;", "legs 4;rung 1;", "legs 5;gate 1;gate 3;");
            int[] due = {0, 1, 0, 2, 1, 0};
            for (int i = 0; i < 6; i++) {
                REPORT.due("mendAt(0, " + i + ")", x.mendAt(0, i), due[i]);
            }
            for (int t = 1; t < 3; t++) {
                Naive.Element rung = new Naive.Element(Naive.RUNG, 1, 0, 0);
                Naive.Element gate = new Naive.Element(Naive.GATE, 1, 0, 0);
                List<Naive.Element> elements = t == 1 ? List.of(rung)
                        : List.of(gate, new Naive.Element(Naive.GATE, 3, 0, 0));
                List<Integer> gates = Naive.mend(new Naive.Ladder(3 + t, elements));
                REPORT.due("mend(" + t + ")", x.mend(t), gates.size());
                for (int i = 0; i < gates.size(); i++) {
                    REPORT.due("mendAt(" + t + ", " + i + ")", x.mendAt(t, i), gates.get(i));
                }
            }
        });
        REPORT.test("43 what is put below does mend", () -> {
            LadderLots x = Texts.with("legs 5;rung 0;gate 2;back 3;gate 1;rung 2;back 0;");
            StringBuilder text = new StringBuilder("legs 5;");
            int many = x.mend(0);
            for (int i = 0; i < many; i++) {
                text.append("gate ").append(x.mendAt(0, i)).append(';');
            }
            REPORT.due("read", Texts.read(x, text.toString()), 0);
            REPORT.due("join", x.join(0, 1), 2);
            REPORT.due("sorts(2)", x.sorts(2), 1);
            REPORT.due("needed of the last", x.needed(2, 6 + many - 1), 1);
        });
        REPORT.test("43 another one's gates are told, whatever was asked ahead", () -> {
            LadderLots x = Texts.with("legs 5;", "legs 3;gate 0;gate 1;", "legs 3;gate 1;gate 0;");
            x.mend(0);
            REPORT.due("mendAt(1, 0)", x.mendAt(1, 0), 0);
            REPORT.due("mendAt(2, 0)", x.mendAt(2, 0), 1);
            REPORT.due("mendAt(0, 9)", x.mendAt(0, 9), 0);
            REPORT.due("mendAt(1, 1)", x.mendAt(1, 1), -1);
        });
    }

    private static void unlike() {
        REPORT.test("44 LADDERS that are there", () -> {
            LadderLots x = Texts.with("legs 2;", "legs 2;");
            REPORT.span("unlike(t, 0)", t -> x.unlike(t, 0), 0, 1);
            REPORT.span("unlike(0, u)", u -> x.unlike(0, u), 0, 1);
        });
        REPORT.test("44 -2: one has MAYBES, the first, the second, both", () -> {
            LadderLots x = Texts.with("legs 2;", "legs 2;maybe 0 0 1;", "legs 2;gate 0;maybe 0 1 1;");
            REPORT.due("the first", x.unlike(1, 0), -2);
            REPORT.due("the second", x.unlike(0, 2), -2);
            REPORT.due("both", x.unlike(1, 2), -2);
            REPORT.due("with itself", x.unlike(1, 1), -2);
            REPORT.due("none", x.unlike(0, 0), 0);
        });
        REPORT.test("44 -2: unlike LEGS", () -> {
            LadderLots x = Texts.with("legs 2;", "legs 3;", "legs 6;", "legs 7;", "legs 7;");
            for (int t = 0; t < 5; t++) {
                for (int u = 0; u < 5; u++) {
                    boolean alike = t == u || t + u == 7 && t > 2 && u > 2;
                    REPORT.due("unlike(" + t + ", " + u + ")", x.unlike(t, u), alike ? 0 : -2);
                }
            }
        });
        REPORT.test("44 NONE is looked at ahead of -2", () -> {
            LadderLots x = Texts.with("legs 2;maybe 0 1 1;", "legs 3;");
            REPORT.none("unlike(0, u)", u -> x.unlike(0, u), -1, 2, 6, MIN, MAX);
            REPORT.none("unlike(t, 0)", t -> x.unlike(t, 0), -1, 2, 6, MIN, MAX);
        });
        REPORT.test("44 on none and on all ORDERS", () -> {
            for (int n = 2; n <= 7; n++) {
                LadderLots x = Texts.with(sorter(n), sorter(n).replace("gate", "back"),
                        "legs " + n + ";", "legs " + n + ";rung " + (n - 2) + ";");
                REPORT.due("itself", x.unlike(0, 0), 0);
                REPORT.due("all", x.unlike(0, 1), ORDERS[n]);
                REPORT.due("all but one", x.unlike(0, 2), ORDERS[n] - 1);
                REPORT.due("all but one", x.unlike(2, 1), ORDERS[n] - 1);
                REPORT.due("all by a rung", x.unlike(2, 3), ORDERS[n]);
                REPORT.due("all by a rung", x.unlike(3, 2), ORDERS[n]);
            }
        });
        REPORT.test("44 a gate and none differ on half of them", () -> {
            for (int n = 2; n <= 7; n++) {
                LadderLots x = Texts.with("legs " + n + ";", "legs " + n + ";gate " + (n - 2) + ";");
                REPORT.due("half", x.unlike(0, 1), ORDERS[n] / 2);
            }
        });
    }

    public static void main(String[] args) {
        sorting();
        failing();
        idling();
        needing();
        mending();
        unlike();
        REPORT.exit();
    }
}
