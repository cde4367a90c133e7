import java.util.function.IntToLongFunction;

/** Promises 12 to 23: orders, ends and least ladders, each at its edges. */
public final class OrderEdgeTest {
    private static final Report REPORT = new Report();
    private static final int MIN = Integer.MIN_VALUE;
    private static final int MAX = Integer.MAX_VALUE;
    private static final int[] ORDERS = {1, 1, 2, 6, 24, 120, 720, 5040};
    /** 941 and 827 of 7: the most least ladders up to 800, the fewest above. */
    private static final int MANY = 941;
    private static final int TOO_MANY = 827;

    /** Something is asked of n numbers and an order of them. */
    private interface OfOrder {
        long ask(int n, int order);
    }

    private static void ordersOf(String number, String call, OfOrder asked) {
        REPORT.test(number + " n of 2 to 7", () -> {
            REPORT.span(call + " of n", n -> asked.ask(n, 0), 2, 7);
            REPORT.none(call + " of n", n -> asked.ask(n, 0), 0, 1, 8, 9, 10);
            REPORT.none(call + " of n, order 1", n -> asked.ask(n, 1), 0, 1, 8, MIN, MAX);
        });
        REPORT.test(number + " an ORDER of 0 up to the last of each n", () -> {
            for (int n = 2; n <= 7; n++) {
                int legs = n;
                IntToLongFunction ofOrder = order -> asked.ask(legs, order);
                REPORT.span(call + " of an order of " + n, ofOrder, 0, ORDERS[n] - 1);
            }
        });
    }

    private static String row(LadderLots x, int n, int order) {
        StringBuilder told = new StringBuilder();
        for (int i = 0; i < n; i++) {
            told.append(x.digit(n, order, i));
        }
        return told.toString();
    }

    private static void digits() {
        LadderLots y = new LadderLots();
        ordersOf("12", "digit", (n, order) -> y.digit(n, order, 0));
        REPORT.test("12 the first number to the last", () -> {
            LadderLots x = new LadderLots();
            for (int n = 2; n <= 7; n++) {
                int legs = n;
                REPORT.span("digit(" + n + ", 1, i)", i -> x.digit(legs, 1, i), 0, n - 1);
            }
        });
        REPORT.test("12 the first ORDER, the second, the last but one, the last", () -> {
            LadderLots x = new LadderLots();
            REPORT.same("0 of 7", row(x, 7, 0), "0123456");
            REPORT.same("1 of 7", row(x, 7, 1), "0123465");
            REPORT.same("5038 of 7", row(x, 7, 5038), "6543201");
            REPORT.same("5039 of 7", row(x, 7, 5039), "6543210");
            REPORT.same("0 of 2", row(x, 2, 0), "01");
            REPORT.same("1 of 2", row(x, 2, 1), "10");
        });
        REPORT.test("12 the lesser first number first, of alike ones by the second", () -> {
            LadderLots x = new LadderLots();
            String[] due = {"012", "021", "102", "120", "201", "210"};
            for (int order = 0; order < 6; order++) {
                REPORT.same("order " + order, row(x, 3, order), due[order]);
            }
            REPORT.same("719 of 7", row(x, 7, 719), "0654321");
            REPORT.same("720 of 7", row(x, 7, 720), "1023456");
        });
    }

    private static void downs() {
        REPORT.test("13 a LADDER that is there", () -> {
            LadderLots x = Texts.with("legs 2;", "legs 2;");
            REPORT.span("down(t, 1, 0)", t -> x.down(t, 1, 0), 0, 1);
        });
        REPORT.test("13 an ORDER of 0 up to the last of each n", () -> {
            for (int n = 2; n <= 7; n++) {
                LadderLots x = Texts.with("legs " + n + ";");
                REPORT.span("down of " + n, order -> x.down(0, order, 0), 0, ORDERS[n] - 1);
                REPORT.due("the last stays", x.down(0, ORDERS[n] - 1, 0), ORDERS[n] - 1);
            }
        });
        REPORT.test("13 MAYBES THERE: of none, of one, of 19, of 20", () -> {
            LadderLots x = Texts.with("legs 3;", "legs 3;rung 0;maybe 0 1 2;gate 0;",
                    "legs 3;times 19{maybe 1 1 2;}", "legs 3;times 20{maybe 1 1 2;}");
            REPORT.span("down(0, 0, there)", there -> x.down(0, 0, there), 0, 0);
            REPORT.span("down(1, 0, there)", there -> x.down(1, 0, there), 0, 1);
            REPORT.span("down(2, 0, there)", there -> x.down(2, 0, there), 0, (1 << 19) - 1);
            REPORT.span("down(3, 0, there)", there -> x.down(3, 0, there), 0, (1 << 20) - 1);
        });
        REPORT.test("13 bit 0 is the first MAYBE from the top, bit 19 the last", () -> {
            LadderLots x = Texts.with("legs 4;maybe 0 1 2;rung 1;maybe 2 1 2;",
                    "legs 3;times 19{maybe 0 1 2;}maybe 1 1 2;");
            REPORT.same("none", row(x, 4, x.down(0, 0, 0)), "0213");
            REPORT.same("the first", row(x, 4, x.down(0, 0, 1)), "1203");
            REPORT.same("the last", row(x, 4, x.down(0, 0, 2)), "0231");
            REPORT.same("both", row(x, 4, x.down(0, 0, 3)), "1230");
            REPORT.due("the last of 20", x.down(1, 0, 1 << 19), 1);
            REPORT.due("the 19th of 20", x.down(1, 0, 1 << 18), 2);
        });
        REPORT.test("13 a MAYBE changes when it is THERE, by 0 of its ways and by all", () -> {
            LadderLots x = Texts.with("legs 2;maybe 0 0 1;", "legs 2;maybe 0 4 4;");
            for (int t = 0; t < 2; t++) {
                REPORT.due("there", x.down(t, 0, 1), 1);
                REPORT.due("back again", x.down(t, 1, 1), 0);
                REPORT.due("not there", x.down(t, 0, 0), 0);
            }
        });
        REPORT.test("13 a RUNG changes always, a GATE the greater left, a BACK the less", () -> {
            LadderLots x = Texts.with("legs 2;rung 0;", "legs 2;gate 0;", "legs 2;back 0;");
            int[][] due = {{1, 0}, {0, 0}, {1, 1}};
            for (int t = 0; t < 3; t++) {
                REPORT.due("0 1 on " + t, x.down(t, 0, 0), due[t][0]);
                REPORT.due("1 0 on " + t, x.down(t, 1, 0), due[t][1]);
            }
        });
        REPORT.test("13 on the last LEGS of 7", () -> {
            LadderLots x = Texts.with("legs 7;rung 5;", "legs 7;gate 5;", "legs 7;back 5;");
            REPORT.same("rung", row(x, 7, x.down(0, 0, 0)), "0123465");
            REPORT.same("gate", row(x, 7, x.down(1, 5039, 0)), "6543201");
            REPORT.same("back", row(x, 7, x.down(2, 0, 0)), "0123465");
            REPORT.same("gate stays", row(x, 7, x.down(1, 0, 0)), "0123456");
            REPORT.same("back stays", row(x, 7, x.down(2, 5039, 0)), "6543210");
        });
        REPORT.test("13 no ELEMENTS, and 200 to the last", () -> {
            LadderLots x = Texts.with("legs 7;", "legs 7;times 19{times 10{rung 0;}}"
                    + "times 9{rung 2;}rung 5;");
            REPORT.due("none", x.down(0, 2718, 0), 2718);
            REPORT.same("200", row(x, 7, x.down(1, 0, 0)), "0132465");
        });
    }

    private static void ends() {
        REPORT.test("14 a LADDER that is there", () -> {
            LadderLots x = Texts.with("legs 2;", "legs 2;");
            REPORT.span("ends(t, 1, 0, 1)", t -> x.ends(t, 1, 0, 1), 0, 1);
        });
        REPORT.test("14 an ORDER, and a number of 0 to n - 1, of each n", () -> {
            for (int n = 2; n <= 7; n++) {
                LadderLots x = Texts.with("legs " + n + ";");
                REPORT.span("ends of " + n, order -> x.ends(0, order, 0, 0), 0, ORDERS[n] - 1);
                REPORT.span("ends of " + n, number -> x.ends(0, 1, 0, number), 0, n - 1);
            }
        });
        REPORT.test("14 MAYBES THERE of none and of 20", () -> {
            LadderLots x = Texts.with("legs 3;", "legs 3;times 20{maybe 1 1 2;}");
            REPORT.span("ends(0, 0, there, 2)", there -> x.ends(0, 0, there, 2), 0, 0);
            REPORT.span("ends(1, 0, there, 2)", there -> x.ends(1, 0, there, 2), 0, (1 << 20) - 1);
            REPORT.due("all", x.ends(1, 0, (1 << 20) - 1, 2), 2);
            REPORT.due("all but one", x.ends(1, 0, (1 << 20) - 2, 2), 1);
        });
        REPORT.test("14 the LEG of each number, the first and the last", () -> {
            LadderLots x = Texts.with("legs 7;rung 0;rung 1;rung 2;rung 3;rung 4;rung 5;");
            for (int number = 0; number < 7; number++) {
                REPORT.due("of the first order", x.ends(0, 0, 0, number),
                        number == 0 ? 6 : number - 1);
                REPORT.due("of the last order", x.ends(0, 5039, 0, number),
                        number == 6 ? 6 : 5 - number);
            }
        });
    }

    private static void counts() {
        LadderLots y = new LadderLots();
        ordersOf("15", "fewest", y::fewest);
        REPORT.test("15 none for the first ORDER, all pairs for the last", () -> {
            LadderLots x = new LadderLots();
            for (int n = 2; n <= 7; n++) {
                REPORT.due("fewest of the first", x.fewest(n, 0), 0);
                REPORT.due("fewest of the second", x.fewest(n, 1), 1);
                REPORT.due("fewest of the last", x.fewest(n, ORDERS[n] - 1), n * (n - 1) / 2);
                REPORT.due("fewest of the last but one", x.fewest(n, ORDERS[n] - 2),
                        n * (n - 1) / 2 - 1);
            }
        });
        ordersOf("16", "ladders", y::ladders);
        REPORT.test("16 one for the first ORDER, the most for the last", () -> {
            LadderLots x = new LadderLots();
            long[] last = {0, 0, 1, 2, 16, 768, 292864, 1100742656L};
            for (int n = 7; n >= 2; n--) {
                REPORT.due("ladders of the first of " + n, x.ladders(n, 0), 1);
                REPORT.due("ladders of the second of " + n, x.ladders(n, 1), 1);
                REPORT.due("ladders of the last of " + n, x.ladders(n, ORDERS[n] - 1), last[n]);
            }
        });
        REPORT.test("16 a few asked of n, then of a greater n, then of the less", () -> {
            LadderLots x = new LadderLots();
            REPORT.due("ladders(3, 5)", x.ladders(3, 5), 2);
            REPORT.due("ladders(7, 5039)", x.ladders(7, 5039), 1100742656L);
            REPORT.due("ladders(5, 119)", x.ladders(5, 119), 768);
            REPORT.due("ladders(3, 6)", x.ladders(3, 6), -1);
        });
    }

    private static void rungs() {
        LadderLots y = new LadderLots();
        REPORT.test("17 n of 2 to 7", () -> REPORT.span("rung(n, 1, 0, 0)",
                n -> y.rung(n, 1, 0, 0), 2, 7));
        REPORT.test("17 an ORDER up to the last of each n", () -> {
            for (int n = 2; n <= 7; n++) {
                int legs = n;
                REPORT.span("rung of " + n, order -> y.rung(legs, order, 0, 0), 1, ORDERS[n] - 1);
            }
        });
        REPORT.test("17 a rank of 0 up to the last", () -> {
            LadderLots x = new LadderLots();
            REPORT.span("rung(5, 119, rank, 9)", rank -> x.rung(5, 119, rank, 9), 0, 767);
            REPORT.span("rung(2, 1, rank, 0)", rank -> x.rung(2, 1, rank, 0), 0, 0);
            REPORT.span("rung(7, 5039, rank, 20)", rank -> x.rung(7, 5039, rank, 20), 0,
                    1100742655);
        });
        REPORT.test("17 a rank beyond 32 bits", () -> {
            LadderLots x = new LadderLots();
            for (long rank : new long[] {1L << 31, 1L << 32, (1L << 32) + 5, -(1L << 32),
                (1L << 40) - 1, Long.MAX_VALUE, Long.MIN_VALUE, Long.MIN_VALUE + 7}) {
                REPORT.due("rung of rank " + rank, x.rung(5, 119, rank, 0), -1);
                REPORT.due("rung of rank " + rank, x.rung(7, 5039, rank, 0), -1);
            }
        });
        REPORT.test("17 the first RUNG to the last", () -> {
            LadderLots x = new LadderLots();
            REPORT.span("rung(7, 5039, 0, i)", i -> x.rung(7, 5039, 0, i), 0, 20);
            REPORT.span("rung(2, 1, 0, i)", i -> x.rung(2, 1, 0, i), 0, 0);
            REPORT.span("rung(3, 3, 0, i)", i -> x.rung(3, 3, 0, i), 0, 1);
        });
        REPORT.test("17 no RUNG for the first ORDER", () -> {
            LadderLots x = new LadderLots();
            for (int n = 2; n <= 7; n++) {
                REPORT.due("rung 0", x.rung(n, 0, 0, 0), -1);
                REPORT.due("rung -1", x.rung(n, 0, 0, -1), -1);
            }
        });
        REPORT.test("17 the first rank and the last of the last ORDER", () -> {
            LadderLots x = new LadderLots();
            int[] first = {0, 1, 0, 2, 1, 0, 3, 2, 1, 0};
            int[] last = {3, 2, 3, 1, 2, 3, 0, 1, 2, 3};
            for (int i = 0; i < 10; i++) {
                REPORT.due("rung " + i + " of the first", x.rung(5, 119, 0, i), first[i]);
                REPORT.due("rung " + i + " of the last", x.rung(5, 119, 767, i), last[i]);
            }
        });
    }

    private static void ranks() {
        REPORT.test("18 a LADDER that is there", () -> {
            LadderLots x = Texts.with("legs 3;", "legs 3;rung 1;");
            REPORT.span("rank", x::rank, 0, 1);
        });
        REPORT.test("18 no RUNGS, and one", () -> {
            LadderLots x = Texts.with("legs 2;", "legs 7;", "legs 2;rung 0;", "legs 7;rung 5;");
            for (int t = 0; t < 4; t++) {
                REPORT.due("rank of " + t, x.rank(t), 0);
            }
        });
        REPORT.test("18 -2: not PLAIN by the last one alone", () -> {
            LadderLots x = Texts.with("legs 4;rung 0;gate 2;", "legs 4;rung 0;back 2;",
                    "legs 4;rung 0;maybe 2 1 1;", "legs 4;gate 0;", "legs 4;rung 0;rung 2;");
            int[] due = {-2, -2, -2, -2, 0};
            for (int t = 0; t < 5; t++) {
                REPORT.due("rank of " + t, x.rank(t), due[t]);
            }
        });
        REPORT.test("18 -2: not LEAST by two too many", () -> {
            LadderLots x = Texts.with("legs 3;rung 0;rung 1;rung 0;", "legs 3;rung 0;rung 0;",
                    "legs 3;rung 0;rung 1;rung 0;rung 1;", "legs 3;rung 1;rung 0;rung 1;");
            int[] due = {0, -2, -2, 1};
            for (int t = 0; t < 4; t++) {
                REPORT.due("rank of " + t, x.rank(t), due[t]);
            }
        });
        REPORT.test("18 200 RUNGS are not LEAST", () -> {
            LadderLots x = Texts.with("legs 7;times 20{times 10{rung 3;}}");
            REPORT.due("rank(0)", x.rank(0), -2);
        });
        REPORT.test("18 the first rank and the last of the last ORDER of 5", () -> {
            LadderLots x = Texts.with("legs 5;rung 0;rung 1;rung 0;rung 2;rung 1;rung 0;rung 3;"
                    + "rung 2;rung 1;rung 0;", "legs 5;rung 3;rung 2;rung 3;rung 1;rung 2;rung 3;"
                    + "rung 0;rung 1;rung 2;rung 3;");
            REPORT.due("rank(0)", x.rank(0), 0);
            REPORT.due("rank(1)", x.rank(1), 767);
        });
    }

    private static void clearings() {
        REPORT.test("19 a LADDER that is there", () -> {
            LadderLots x = Texts.with("legs 3;", "legs 3;rung 1;");
            REPORT.span("cleared", x::cleared, 0, 1);
        });
        REPORT.test("19 none, one, two, three RUNGS of one place", () -> {
            LadderLots x = Texts.with("legs 2;", "legs 2;rung 0;", "legs 2;rung 0;rung 0;",
                    "legs 2;rung 0;rung 0;rung 0;");
            int[] due = {0, 1, 0, 1};
            for (int t = 0; t < 4; t++) {
                REPORT.due("cleared(" + t + ")", x.cleared(t), due[t]);
            }
        });
        REPORT.test("19 199 and 200 RUNGS of one place", () -> {
            LadderLots x = Texts.with("legs 2;times 20{times 10{rung 0;}}",
                    "legs 2;times 19{times 10{rung 0;}}times 9{rung 0;}");
            REPORT.due("200", x.cleared(0), 0);
            REPORT.due("199", x.cleared(1), 1);
            REPORT.due("its last", x.kept(1, 0), 198);
        });
        REPORT.test("19 -2: not PLAIN, by each other kind", () -> {
            LadderLots x = Texts.with("legs 2;gate 0;", "legs 2;rung 0;back 0;",
                    "legs 2;rung 0;rung 0;maybe 0 0 1;");
            for (int t = 0; t < 3; t++) {
                REPORT.due("cleared(" + t + ")", x.cleared(t), -2);
            }
        });
        REPORT.test("19 a LEAST LADDER keeps all, an undone one none", () -> {
            LadderLots x = Texts.with("legs 4;rung 0;rung 1;rung 2;rung 0;rung 1;rung 0;");
            REPORT.due("cleared(0)", x.cleared(0), 6);
            x.copy(0, true, false);
            x.join(0, 1);
            REPORT.due("cleared(2)", x.cleared(2), 0);
            REPORT.due("kept(2, 0)", x.kept(2, 0), -1);
        });
        REPORT.test("19 the two, not the LEGS: those that changed at an earlier RUNG", () -> {
            LadderLots x = Texts.with("legs 3;rung 0;rung 1;rung 0;", "legs 3;rung 0;rung 1;rung 1;",
                    "legs 3;rung 0;rung 1;rung 0;rung 1;", "legs 3;rung 0;rung 1;rung 0;rung 0;");
            int[] due = {3, 1, 2, 2};
            for (int t = 0; t < 4; t++) {
                REPORT.due("cleared(" + t + ")", x.cleared(t), due[t]);
            }
            REPORT.due("kept(2, 0)", x.kept(2, 0), 1);
            REPORT.due("kept(2, 1)", x.kept(2, 1), 2);
            REPORT.due("kept(3, 1)", x.kept(3, 1), 1);
        });
        REPORT.test("20 a LADDER that is there", () -> {
            LadderLots x = Texts.with("legs 3;rung 0;", "legs 3;rung 1;");
            REPORT.span("kept(t, 0)", t -> x.kept(t, 0), 0, 1);
        });
        REPORT.test("20 the first RUNG to the last that is left", () -> {
            LadderLots x = Texts.with("legs 4;rung 2;rung 2;rung 0;rung 1;rung 0;", "legs 4;");
            REPORT.span("kept(0, i)", i -> x.kept(0, i), 0, 2);
            for (int i = 0; i < 3; i++) {
                REPORT.due("kept(0, " + i + ")", x.kept(0, i), i + 2);
            }
            REPORT.none("kept(1, i)", i -> x.kept(1, i), -1, 0, 1, MIN, MAX);
        });
        REPORT.test("20 NONE of one that is not PLAIN", () -> {
            LadderLots x = Texts.with("legs 3;rung 0;gate 1;", "legs 3;maybe 0 1 1;",
                    "legs 3;rung 0;back 1;");
            for (int t = 0; t < 3; t++) {
                int asked = t;
                REPORT.none("kept(" + t + ", i)", i -> x.kept(asked, i), -1, 0, 1, 2);
            }
        });
    }

    /** Fewest turns, or moves, between two ranks. */
    private interface Steps {
        int ask(LadderLots x, int n, int order, int rank, int other);
    }

    private static void steps(String number, String call, Steps asked) {
        LadderLots y = new LadderLots();
        ordersOf(number, call, (n, order) -> asked.ask(y, n, order, 0, 0));
        REPORT.test(number + " a rank of 0 up to the last, and another one", () -> {
            LadderLots x = new LadderLots();
            REPORT.span(call + " from rank", rank -> asked.ask(x, 5, 119, rank, 3), 0, 767);
            REPORT.span(call + " to rank", other -> asked.ask(x, 5, 119, 3, other), 0, 767);
            REPORT.span(call + " from rank", rank -> asked.ask(x, 4, 0, rank, 0), 0, 0);
            REPORT.span(call + " to rank", other -> asked.ask(x, 7, 1, 0, other), 0, 0);
        });
        REPORT.test(number + " as many as 789 are led, 810 are -2", () -> {
            LadderLots x = new LadderLots();
            REPORT.due("ladders", x.ladders(7, MANY), 789);
            REPORT.holds("led", asked.ask(x, 7, MANY, 0, 788) > 0);
            REPORT.due("to itself", asked.ask(x, 7, MANY, 788, 788), 0);
            REPORT.due("beyond", asked.ask(x, 7, MANY, 0, 789), -1);
            REPORT.due("ladders", x.ladders(7, TOO_MANY), 810);
            REPORT.due("too many", asked.ask(x, 7, TOO_MANY, 0, 809), -2);
            REPORT.due("too many, to itself", asked.ask(x, 7, TOO_MANY, 0, 0), -2);
        });
        REPORT.test(number + " NONE is looked at ahead of -2", () -> {
            LadderLots x = new LadderLots();
            REPORT.none("from rank", rank -> asked.ask(x, 7, TOO_MANY, rank, 0), -1, 810, MIN, MAX);
            REPORT.none("to rank", other -> asked.ask(x, 7, TOO_MANY, 0, other), -1, 810, MIN, MAX);
            REPORT.due("within the most", asked.ask(x, 7, 5039, 1100742655, 0), -2);
            REPORT.due("beyond the most", asked.ask(x, 7, 5039, 1100742656, 0), -1);
            REPORT.due("beyond the most", asked.ask(x, 7, 5039, 0, 1100742656), -1);
        });
        REPORT.test(number + " to itself none, and back as many as there", () -> {
            LadderLots x = new LadderLots();
            for (int rank = 0; rank < 16; rank++) {
                REPORT.due("to itself", asked.ask(x, 4, 23, rank, rank), 0);
                REPORT.due("back", asked.ask(x, 4, 23, rank, 0), asked.ask(x, 4, 23, 0, rank));
            }
        });
    }

    private static void leading() {
        steps("21", "turns", LadderLots::turns);
        steps("22", "moves", LadderLots::moves);
        REPORT.test("21 SLIDES are free, 22 and are not", () -> {
            LadderLots x = new LadderLots();
            // 1 0 3 2 of 4: the legs 0 and 2 in two rows
            REPORT.due("turns", x.turns(4, 7, 0, 1), 0);
            REPORT.due("moves", x.moves(4, 7, 0, 1), 1);
        });
        REPORT.test("21 a SLIDE needs no LEG alike", () -> {
            LadderLots x = new LadderLots();
            // the legs 0 1 0 and 1 0 1: one turn and no slide
            REPORT.due("turns", x.turns(3, 5, 0, 1), 1);
            REPORT.due("moves", x.moves(3, 5, 0, 1), 1);
            REPORT.due("classes", x.classes(3, 5), 2);
            // legs 0 and 1 have one alike: 1 2 0 has one least ladder
            REPORT.due("ladders", x.ladders(3, 3), 1);
        });
        LadderLots y = new LadderLots();
        ordersOf("23", "classes", y::classes);
        REPORT.test("23 789 fall into classes, 810 are -2", () -> {
            LadderLots x = new LadderLots();
            REPORT.due("classes", x.classes(7, MANY), Naive.classes(Naive.least(7, MANY)));
            REPORT.due("too many", x.classes(7, TOO_MANY), -2);
            REPORT.due("far too many", x.classes(7, 5039), -2);
            REPORT.due("again", x.classes(5, 119), 62);
        });
        REPORT.test("23 one class of one, and of those that SLIDES lead", () -> {
            LadderLots x = new LadderLots();
            REPORT.due("the first order", x.classes(2, 0), 1);
            REPORT.due("the first order", x.classes(7, 0), 1);
            REPORT.due("one rung", x.classes(7, 1), 1);
            REPORT.due("two rows", x.classes(4, 7), 1);
        });
    }

    public static void main(String[] args) {
        digits();
        downs();
        ends();
        counts();
        rungs();
        ranks();
        clearings();
        leading();
        REPORT.exit();
    }
}
