import java.util.function.IntToLongFunction;

/** Promises 24 to 32: ways, odds, logs and what is known by them, each at its edges. */
public final class HiddenEdgeTest {
    private static final Report REPORT = new Report();
    private static final int MIN = Integer.MIN_VALUE;
    private static final int MAX = Integer.MAX_VALUE;
    private static final int[] ORDERS = {1, 1, 2, 6, 24, 120, 720, 5040};
    /** 0 stays by 2 of 3 ways, and else goes on to 1 by 2 of 4. */
    private static final String HIDDEN = "legs 3;maybe 0 1 3;rung 1;maybe 1 2 4;";
    private static final String TWENTY = "legs 2;times 20{maybe 0 1 4;}";

    private static void ways() {
        REPORT.test("24 a LADDER that is there", () -> {
            LadderLots x = Texts.with(HIDDEN, HIDDEN);
            REPORT.span("ways", x::ways, 0, 1);
            REPORT.none("ways", t -> new LadderLots().ways(t), -1, 0, 1);
        });
        REPORT.test("24 1 without MAYBES", () -> {
            LadderLots x = Texts.with("legs 2;", "legs 7;rung 0;gate 1;back 2;",
                    "legs 2;times 20{times 10{gate 0;}}");
            for (int t = 0; t < 3; t++) {
                REPORT.due("ways(" + t + ")", x.ways(t), 1);
            }
        });
        REPORT.test("24 b of 1 to 4, whatever a is", () -> {
            LadderLots x = Texts.with("legs 2;maybe 0 0 1;", "legs 2;maybe 0 1 1;",
                    "legs 2;maybe 0 0 4;", "legs 2;maybe 0 4 4;", "legs 2;maybe 0 2 3;maybe 0 0 2;");
            int[] due = {1, 1, 4, 4, 6};
            for (int t = 0; t < 5; t++) {
                REPORT.due("ways(" + t + ")", x.ways(t), due[t]);
            }
        });
        REPORT.test("24 as many as 20 MAYBES of 4 ways: beyond 32 bits", () -> {
            LadderLots x = Texts.with(TWENTY, "legs 2;times 16{maybe 0 1 4;}",
                    "legs 2;times 20{maybe 0 0 3;}");
            REPORT.due("ways(0)", x.ways(0), 1L << 40);
            REPORT.due("ways(1)", x.ways(1), 1L << 32);
            REPORT.due("ways(2)", x.ways(2), 3486784401L);
        });
    }

    private static void odds() {
        REPORT.test("25 a LADDER that is there", () -> {
            LadderLots x = Texts.with(HIDDEN, HIDDEN);
            REPORT.span("odds(t, 5, 2, 2)", t -> x.odds(t, 5, 2, 2), 0, 1);
        });
        REPORT.test("25 an ORDER, a number and a LEG of each n", () -> {
            for (int n = 2; n <= 7; n++) {
                LadderLots x = Texts.with("legs " + n + ";maybe 0 1 2;");
                REPORT.span("order", order -> x.odds(0, order, 0, 0), 0, ORDERS[n] - 1);
                REPORT.span("number", number -> x.odds(0, 0, number, 0), 0, n - 1);
                REPORT.span("leg", leg -> x.odds(0, 0, 0, leg), 0, n - 1);
            }
        });
        REPORT.test("25 never and always are 0 and all ways", () -> {
            LadderLots x = Texts.with("legs 2;times 19{maybe 0 4 4;}maybe 0 0 4;");
            REPORT.due("odds on 1", x.odds(0, 0, 0, 1), 1L << 40);
            REPORT.due("odds on 0", x.odds(0, 0, 0, 0), 0);
            REPORT.due("odds of 1 on 0", x.odds(0, 0, 1, 0), 1L << 40);
        });
        REPORT.test("25 without MAYBES 1 on one LEG, 0 on the others", () -> {
            LadderLots x = Texts.with("legs 3;back 0;back 1;");
            for (int leg = 0; leg < 3; leg++) {
                REPORT.due("0 on " + leg, x.odds(0, 0, 0, leg), leg == 2 ? 1 : 0);
                REPORT.due("2 on " + leg, x.odds(0, 0, 2, leg), leg == 1 ? 1 : 0);
            }
        });
        REPORT.test("25 all LEGS of a number are all ways", () -> {
            LadderLots x = Texts.with("legs 4;maybe 0 1 3;gate 1;maybe 2 3 4;back 0;maybe 1 1 2;");
            for (int order = 0; order < 24; order += 23) {
                for (int number = 0; number < 4; number++) {
                    long sum = 0;
                    for (int leg = 0; leg < 4; leg++) {
                        sum += x.odds(0, order, number, leg);
                    }
                    REPORT.due("all legs of " + number, sum, 24);
                }
            }
        });
        REPORT.test("26 a LADDER that is there", () -> {
            LadderLots x = Texts.with(HIDDEN, HIDDEN);
            REPORT.span("oddsOf(t, 5, 5)", t -> x.oddsOf(t, 5, 5), 0, 1);
        });
        REPORT.test("26 an ORDER and another one of each n", () -> {
            for (int n = 2; n <= 7; n++) {
                LadderLots x = Texts.with("legs " + n + ";maybe 0 1 2;");
                REPORT.span("order", order -> x.oddsOf(0, order, 0), 0, ORDERS[n] - 1);
                REPORT.span("end", end -> x.oddsOf(0, 0, end), 0, ORDERS[n] - 1);
            }
        });
        REPORT.test("26 0 of an END that can't be, all ways of one that must", () -> {
            LadderLots x = Texts.with("legs 7;times 20{maybe 5 4 4;}", "legs 7;rung 5;");
            REPORT.due("the same", x.oddsOf(0, 5039, 5039), 1L << 40);
            REPORT.due("another", x.oddsOf(0, 5039, 5038), 0);
            REPORT.due("the same", x.oddsOf(1, 5039, 5039), 0);
            REPORT.due("another", x.oddsOf(1, 5039, 5038), 1);
        });
        REPORT.test("26 all ENDS are all ways", () -> {
            LadderLots x = Texts.with(HIDDEN + "gate 0;maybe 0 1 4;");
            for (int order = 0; order < 6; order++) {
                long sum = 0;
                for (int end = 0; end < 6; end++) {
                    sum += x.oddsOf(0, order, end);
                }
                REPORT.due("all ends of " + order, sum, 48);
            }
        });
        REPORT.test("26 even and odd of 20: beyond 32 bits", () -> {
            LadderLots x = Texts.with(TWENTY);
            REPORT.due("even", x.oddsOf(0, 1, 1), ((1L << 40) + (1L << 20)) / 2);
            REPORT.due("odd", x.oddsOf(0, 1, 0), ((1L << 40) - (1L << 20)) / 2);
        });
    }

    private static void possible() {
        REPORT.test("27 a LADDER that is there", () -> {
            LadderLots x = Texts.with(HIDDEN, HIDDEN);
            REPORT.span("possible(t, 5)", t -> x.possible(t, 5), 0, 1);
        });
        REPORT.test("27 an ORDER of each n", () -> {
            for (int n = 2; n <= 7; n++) {
                LadderLots x = Texts.with("legs " + n + ";maybe 0 1 2;");
                REPORT.span("order", order -> x.possible(0, order), 0, ORDERS[n] - 1);
            }
        });
        REPORT.test("27 by one way at least: one of 4, and none of 4", () -> {
            LadderLots x = Texts.with("legs 2;maybe 0 1 4;", "legs 2;maybe 0 3 4;",
                    "legs 2;maybe 0 0 4;", "legs 2;maybe 0 4 4;", "legs 2;");
            int[] due = {2, 2, 1, 1, 1};
            for (int t = 0; t < 5; t++) {
                REPORT.due("possible(" + t + ", 0)", x.possible(t, 0), due[t]);
                REPORT.due("possible(" + t + ", 1)", x.possible(t, 1), due[t]);
            }
        });
        REPORT.test("27 all ORDERS of 6, and no more", () -> {
            StringBuilder text = new StringBuilder("legs 6;");
            for (int last = 0; last < 5; last++) {
                for (int leg = last; leg >= 0; leg--) {
                    text.append("maybe ").append(leg).append(" 1 2;");
                }
            }
            LadderLots x = Texts.with(text.toString(), text + "maybe 0 1 2;maybe 4 1 2;",
                    text + "gate 0;");
            REPORT.due("all", x.possible(0, 0), 720);
            REPORT.due("all of the last", x.possible(0, 719), 720);
            REPORT.due("no more", x.possible(1, 0), 720);
            REPORT.due("half of them", x.possible(2, 0), 360);
        });
    }

    private static LadderLots full() {
        LadderLots x = Texts.with(HIDDEN, "legs 2;");
        for (int i = 0; i < 40; i++) {
            REPORT.due("entry", i % 4 == 3 ? x.annul(i - 1) : x.log(0, 0, i % 3), i);
        }
        return x;
    }

    private static void logs() {
        REPORT.test("28 a LADDER that is there", () -> {
            LadderLots x = Texts.with("legs 2;", "legs 2;");
            REPORT.span("log(t, 1, 1)", t -> x.log(t, 1, 1), 0, 1);
            REPORT.due("count(1)", x.count(1), 3);
        });
        REPORT.test("28 a number and a LEG of each n", () -> {
            for (int n = 2; n <= 7; n++) {
                LadderLots x = Texts.with("legs " + n + ";");
                REPORT.span("number", number -> x.log(0, number, 0), 0, n - 1);
                REPORT.span("leg", leg -> x.log(0, 0, leg), 0, n - 1);
                REPORT.due("count(1)", x.count(1), 6);
            }
        });
        REPORT.test("28 40 are there, no 41st", () -> {
            LadderLots x = Texts.with("legs 2;");
            for (int i = 0; i < 40; i++) {
                REPORT.due("log", x.log(0, 0, 0), i);
            }
            REPORT.due("a 41st", x.log(0, 0, 1), -1);
            REPORT.due("count(1)", x.count(1), 40);
            REPORT.due("fitting(0, 40)", x.fitting(0, 40), 1);
            REPORT.due("fitting(0, 41)", x.fitting(0, 41), -1);
        });
        REPORT.test("28 40 LOGS and VOIDS together", () -> {
            LadderLots x = full();
            REPORT.due("a log", x.log(0, 0, 0), -1);
            REPORT.due("count(1)", x.count(1), 40);
        });
        REPORT.test("28 a refused LOG: nothing happens", () -> {
            LadderLots x = Texts.with(HIDDEN);
            x.log(0, 0, 3);
            x.log(0, 3, 0);
            x.log(1, 0, 0);
            REPORT.due("count(1)", x.count(1), 0);
            REPORT.due("fitting(0, 1)", x.fitting(0, 1), -1);
            REPORT.due("the first", x.log(0, 0, 2), 0);
            REPORT.due("fitting(0, 1)", x.fitting(0, 1), 2);
        });
        REPORT.test("28 LOGS of two LADDERS are in one row", () -> {
            LadderLots x = Texts.with(HIDDEN, HIDDEN);
            REPORT.due("log", x.log(1, 0, 0), 0);
            REPORT.due("log", x.log(0, 0, 1), 1);
            REPORT.due("log", x.log(1, 0, 2), 2);
        });
        REPORT.test("28 one that can't be is a LOG too", () -> {
            LadderLots x = Texts.with("legs 2;");
            REPORT.due("log", x.log(0, 0, 1), 0);
            REPORT.due("fitting(0, 1)", x.fitting(0, 1), 0);
        });
    }

    private static void voids() {
        REPORT.test("29 a LOG that is there: the first, the last", () -> {
            LadderLots x = Texts.with(HIDDEN);
            x.log(0, 0, 0);
            x.log(0, 0, 1);
            x.log(0, 0, 2);
            REPORT.none("annul", x::annul, -1, 3, 4, 39, 40, 41, MIN, MAX);
            REPORT.due("count(1)", x.count(1), 3);
            REPORT.due("the last", x.annul(2), 3);
            REPORT.due("the first", x.annul(0), 4);
            REPORT.due("count(1)", x.count(1), 5);
        });
        REPORT.test("29 no LOGS", () -> {
            LadderLots x = Texts.with(HIDDEN);
            REPORT.none("annul", x::annul, -1, 0, 1);
            REPORT.due("count(1)", x.count(1), 0);
        });
        REPORT.test("29 a VOID can't be annulled", () -> {
            LadderLots x = Texts.with(HIDDEN);
            x.log(0, 0, 0);
            x.annul(0);
            REPORT.due("annul of the void", x.annul(1), -1);
            REPORT.due("count(1)", x.count(1), 2);
            REPORT.due("fitting(0, 2)", x.fitting(0, 2), 12);
            x.log(0, 0, 2);
            REPORT.due("annul of the void", x.annul(1), -1);
            REPORT.due("annul of the log behind", x.annul(2), 3);
        });
        REPORT.test("29 a LOG that is void already is a LOG, and no VOID", () -> {
            LadderLots x = Texts.with(HIDDEN);
            x.log(0, 0, 1);
            REPORT.due("annul", x.annul(0), 1);
            REPORT.due("annul again", x.annul(0), 2);
            REPORT.due("fitting(0, 1)", x.fitting(0, 1), 2);
            REPORT.due("fitting(0, 2)", x.fitting(0, 2), 12);
            REPORT.due("fitting(0, 3)", x.fitting(0, 3), 12);
        });
        REPORT.test("29 the 40th is allowed, a 41st is not", () -> {
            LadderLots x = Texts.with(HIDDEN);
            for (int i = 0; i < 39; i++) {
                x.log(0, 0, 0);
            }
            REPORT.due("the 40th", x.annul(38), 39);
            REPORT.due("a 41st", x.annul(0), -1);
            REPORT.due("a 41st", x.annul(37), -1);
            REPORT.due("count(1)", x.count(1), 40);
        });
        REPORT.test("29 a refused VOID: nothing happens", () -> {
            LadderLots x = full();
            long before = x.fitting(0, 40);
            REPORT.due("annul", x.annul(0), -1);
            REPORT.due("annul", x.annul(39), -1);
            REPORT.due("fitting(0, 40)", x.fitting(0, 40), before);
            REPORT.due("fitting(0, 1)", x.fitting(0, 1), 8);
        });
        REPORT.test("29 a LOG of a LADDER annuls none of another", () -> {
            LadderLots x = Texts.with(HIDDEN, HIDDEN);
            x.log(0, 0, 0);
            x.log(1, 0, 0);
            x.annul(1);
            REPORT.due("fitting(0, 3)", x.fitting(0, 3), 8);
            REPORT.due("fitting(1, 3)", x.fitting(1, 3), 12);
        });
    }

    private static void known(String number, String call, Known asked) {
        REPORT.test(number + " a LADDER that is there", () -> {
            LadderLots x = Texts.with(HIDDEN, HIDDEN);
            REPORT.span(call + " of t", t -> asked.ask(x, t, 0), 0, 1);
        });
        REPORT.test(number + " KNOWN by none of the LOGS, and by all", () -> {
            LadderLots x = Texts.with(HIDDEN);
            IntToLongFunction byLogs = j -> asked.ask(x, 0, j);
            REPORT.span(call + " by j", byLogs, 0, 0);
            x.log(0, 0, 0);
            REPORT.span(call + " by j", byLogs, 0, 1);
            x.annul(0);
            REPORT.span(call + " by j", byLogs, 0, 2);
        });
        REPORT.test(number + " KNOWN by 40", () -> {
            LadderLots x = full();
            REPORT.span(call + " by j", j -> asked.ask(x, 0, j), 0, 40);
            REPORT.span(call + " of the other by j", j -> asked.ask(x, 1, j), 0, 40);
        });
    }

    /** Something is asked of a ladder as known by so many logs. */
    private interface Known {
        long ask(LadderLots x, int t, int j);
    }

    private static void fitting() {
        known("30", "fitting", LadderLots::fitting);
        REPORT.test("30 by none all WAYS, of one without MAYBES too", () -> {
            LadderLots x = Texts.with(HIDDEN, "legs 2;", TWENTY);
            x.log(0, 0, 2);
            REPORT.due("fitting(0, 0)", x.fitting(0, 0), 12);
            REPORT.due("fitting(1, 0)", x.fitting(1, 0), 1);
            REPORT.due("fitting(2, 0)", x.fitting(2, 0), 1L << 40);
        });
        REPORT.test("30 by the first j, not by the LOG behind them", () -> {
            LadderLots x = Texts.with(HIDDEN);
            x.log(0, 0, 0);
            x.log(0, 1, 2);
            x.log(0, 1, 1);
            long[] due = {12, 8, 4, 0};
            for (int j = 3; j >= 0; j--) {
                REPORT.due("fitting(0, " + j + ")", x.fitting(0, j), due[j]);
            }
        });
        REPORT.test("30 a VOID counts when it is KNOWN, not ahead of it", () -> {
            LadderLots x = Texts.with(HIDDEN);
            x.log(0, 0, 1);
            x.log(0, 0, 2);
            x.annul(1);
            x.annul(0);
            long[] due = {12, 2, 0, 2, 12};
            for (int j = 0; j <= 4; j++) {
                REPORT.due("fitting(0, " + j + ")", x.fitting(0, j), due[j]);
            }
        });
        REPORT.test("30 the same LOG again, made VOID once", () -> {
            LadderLots x = Texts.with(HIDDEN);
            x.log(0, 0, 1);
            x.log(0, 0, 1);
            x.annul(0);
            REPORT.due("fitting(0, 3)", x.fitting(0, 3), 2);
            x.annul(1);
            REPORT.due("fitting(0, 4)", x.fitting(0, 4), 12);
        });
        REPORT.test("30 two numbers on one LEG, one number on two", () -> {
            LadderLots x = Texts.with(HIDDEN, HIDDEN);
            x.log(0, 0, 0);
            x.log(0, 1, 0);
            x.log(1, 0, 0);
            x.log(1, 0, 1);
            REPORT.due("two on one", x.fitting(0, 2), 0);
            REPORT.due("one on two", x.fitting(1, 4), 0);
            x.annul(3);
            REPORT.due("one on one", x.fitting(1, 5), 8);
        });
        REPORT.test("30 of one LADDER, none of another's LOGS", () -> {
            LadderLots x = Texts.with(HIDDEN, HIDDEN);
            x.log(1, 0, 2);
            REPORT.due("fitting(0, 1)", x.fitting(0, 1), 12);
            REPORT.due("fitting(1, 1)", x.fitting(1, 1), 2);
        });
        REPORT.test("30 LOGS of 0, 1, .. going down at gates", () -> {
            LadderLots x = Texts.with("legs 7;maybe 5 1 4;gate 5;", "legs 7;maybe 5 1 4;back 5;");
            x.log(0, 6, 6);
            x.log(1, 6, 5);
            REPORT.due("gate", x.fitting(0, 2), 4);
            REPORT.due("back", x.fitting(1, 2), 4);
        });
        REPORT.test("30 asked again as more is known", () -> {
            LadderLots x = Texts.with(HIDDEN);
            REPORT.due("fitting(0, 1)", x.fitting(0, 1), -1);
            x.log(0, 0, 1);
            REPORT.due("fitting(0, 1)", x.fitting(0, 1), 2);
            REPORT.due("fitting(0, 0)", x.fitting(0, 0), 12);
            REPORT.due("fitting(0, 2)", x.fitting(0, 2), -1);
            x.annul(0);
            REPORT.due("fitting(0, 2)", x.fitting(0, 2), 12);
            REPORT.due("fitting(0, 1)", x.fitting(0, 1), 2);
        });
    }

    private static void likely() {
        known("31", "likely", (x, t, j) -> x.likely(t, j, 1, 1));
        REPORT.test("31 a number and a LEG of each n", () -> {
            for (int n = 2; n <= 7; n++) {
                LadderLots x = Texts.with("legs " + n + ";maybe 0 1 2;");
                REPORT.span("number", number -> x.likely(0, 0, number, 0), 0, n - 1);
                REPORT.span("leg", leg -> x.likely(0, 0, 0, leg), 0, n - 1);
            }
        });
        REPORT.test("31 by none, as the odds of 0, 1, ..", () -> {
            LadderLots x = Texts.with(HIDDEN);
            for (int number = 0; number < 3; number++) {
                for (int leg = 0; leg < 3; leg++) {
                    REPORT.due("likely", x.likely(0, 0, number, leg), x.odds(0, 0, number, leg));
                }
            }
        });
        REPORT.test("31 of the number that was seen all or none", () -> {
            LadderLots x = Texts.with(HIDDEN);
            x.log(0, 2, 1);
            REPORT.due("on its leg", x.likely(0, 1, 2, 1), x.fitting(0, 1));
            REPORT.due("on another", x.likely(0, 1, 2, 0), 0);
            REPORT.due("on another", x.likely(0, 1, 2, 2), 0);
            REPORT.due("fitting", x.fitting(0, 1), 6);
        });
        REPORT.test("31 beyond 32 bits", () -> {
            LadderLots x = Texts.with(TWENTY);
            x.log(0, 0, 0);
            REPORT.due("likely(0, 1, 1, 1)", x.likely(0, 1, 1, 1), ((1L << 40) + (1L << 20)) / 2);
            REPORT.due("likely(0, 1, 1, 0)", x.likely(0, 1, 1, 0), 0);
        });
        REPORT.test("31 no FITTING WAYS: 0 everywhere", () -> {
            LadderLots x = Texts.with("legs 2;");
            x.log(0, 0, 1);
            for (int at = 0; at < 4; at++) {
                REPORT.due("likely", x.likely(0, 1, at / 2, at % 2), 0);
            }
        });
    }

    private static void next() {
        known("32", "next", LadderLots::next);
        REPORT.test("32 of alike ones the least: all alike", () -> {
            LadderLots x = Texts.with("legs 7;", "legs 2;maybe 0 1 2;");
            REPORT.due("without maybes", x.next(0, 0), 0);
            REPORT.due("two alike", x.next(1, 0), 0);
        });
        REPORT.test("32 of alike ones the least: all but the first", () -> {
            LadderLots x = Texts.with("legs 7;maybe 5 1 2;", "legs 7;maybe 0 1 2;",
                    "legs 7;maybe 2 1 4;");
            REPORT.due("5 and 6", x.next(0, 0), 5);
            REPORT.due("0 and 1", x.next(1, 0), 0);
            REPORT.due("2 and 3", x.next(2, 0), 2);
        });
        REPORT.test("32 the last number alone", () -> {
            // 0 stays by 3 of 6 ways, 1 goes to 2 by 4, 2 ends on each leg by 2
            LadderLots x = Texts.with("legs 3;maybe 1 2 3;maybe 0 1 2;");
            REPORT.due("likely(0, 0, 1, 2)", x.likely(0, 0, 1, 2), 4);
            REPORT.due("next(0, 0)", x.next(0, 0), 2);
        });
        REPORT.test("32 the greatest over its LEGS, not the first or the last of them", () -> {
            LadderLots x = Texts.with("legs 3;rung 0;maybe 1 1 4;");
            // 0 goes to 1 by 3 of 4 ways, 1 to 0 by all, 2 to 2 by 3 of 4
            REPORT.due("next(0, 0)", x.next(0, 0), 0);
            x.log(0, 0, 1);
            REPORT.due("all are known", x.next(0, 1), 0);
        });
        REPORT.test("32 no FITTING WAYS: the least number", () -> {
            LadderLots x = Texts.with(HIDDEN);
            REPORT.due("next(0, 0)", x.next(0, 0), 1);
            x.log(0, 0, 0);
            x.log(0, 1, 0);
            REPORT.due("fitting(0, 2)", x.fitting(0, 2), 0);
            REPORT.due("next(0, 2)", x.next(0, 2), 0);
        });
        REPORT.test("32 beyond 32 bits", () -> {
            LadderLots x = Texts.with("legs 4;rung 0;times 20{maybe 2 1 4;}");
            REPORT.due("next(0, 0)", x.next(0, 0), 2);
        });
    }

    public static void main(String[] args) {
        ways();
        odds();
        possible();
        logs();
        voids();
        fitting();
        likely();
        next();
        REPORT.exit();
    }
}
