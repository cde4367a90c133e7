/** Promises 7 to 11: ladders made of others and by lots, and what is in them, each at its edges. */
public final class MadeEdgeTest {
    private static final Report REPORT = new Report();
    private static final int MIN = Integer.MIN_VALUE;
    private static final int MAX = Integer.MAX_VALUE;
    private static final String HUNDRED = "times 5{times 20{rung 0;}}";

    /** Ladders of 3 legs, of which the t-th has t elements. */
    private static LadderLots holding(int ladders) {
        LadderLots x = new LadderLots();
        for (int t = 0; t < ladders; t++) {
            REPORT.due("lots", x.lots(t, 3, t, false), t);
        }
        return x;
    }

    private static void copies() {
        REPORT.test("7 a LADDER that is there", () -> {
            LadderLots x = holding(3);
            REPORT.due("copy of the last", x.copy(2, false, false), 3);
            REPORT.due("its elements", x.ladder(3, 1), 2);
            REPORT.none("copy", t -> x.copy(t, true, true), -1, 4, 5, 6, MIN, MAX);
            REPORT.due("count(0)", x.count(0), 4);
        });
        REPORT.test("7 no LADDER in an empty object", () -> {
            LadderLots x = new LadderLots();
            REPORT.due("copy", x.copy(0, false, false), -1);
            REPORT.due("count(0)", x.count(0), 0);
        });
        REPORT.test("7 a sixth, and no seventh", () -> {
            LadderLots x = holding(5);
            REPORT.due("copy", x.copy(3, false, false), 5);
            REPORT.due("its elements", x.ladder(5, 1), 3);
            REPORT.due("a seventh", x.copy(4, false, false), -1);
            REPORT.due("count(0)", x.count(0), 6);
            REPORT.due("the sixth still", x.ladder(5, 1), 3);
            REPORT.due("clear()", x.clear(), 6);
        });
        REPORT.test("7 neither, upside, turned, and both", () -> {
            LadderLots x = Texts.with("legs 7;rung 0;gate 1;back 5;maybe 3 1 4;rung 5;");
            x.copy(0, false, false);
            x.copy(0, true, false);
            x.copy(0, false, true);
            x.copy(0, true, true);
            REPORT.same("neither", Texts.elements(x, 1), "r0g1b5m3r5");
            REPORT.same("upside", Texts.elements(x, 2), "r5m3b5g1r0");
            REPORT.same("turned", Texts.elements(x, 3), "r5b4g0m2r0");
            REPORT.same("both", Texts.elements(x, 4), "r0m2g0b4r5");
            REPORT.same("the first still", Texts.elements(x, 0), "r0g1b5m3r5");
        });
        REPORT.test("7 turned on 2 LEGS: GATE for BACK, BACK for GATE, k stays", () -> {
            LadderLots x = Texts.with("legs 2;gate 0;back 0;rung 0;maybe 0 1 3;");
            x.copy(0, false, true);
            REPORT.same("turned", Texts.elements(x, 1), "b0g0r0m0");
        });
        REPORT.test("7 a and b stay", () -> {
            LadderLots x = Texts.with("legs 3;maybe 0 0 1;maybe 1 4 4;");
            x.copy(0, true, true);
            REPORT.due("a", x.element(1, 0, 2), 4);
            REPORT.due("b", x.element(1, 0, 3), 4);
            REPORT.due("a", x.element(1, 1, 2), 0);
            REPORT.due("b", x.element(1, 1, 3), 1);
            REPORT.due("ways", x.ways(1), 4);
        });
        REPORT.test("7 of no ELEMENTS, and of 200 with 20 MAYBES", () -> {
            LadderLots x = Texts.with("legs 4;", "legs 4;times 20{maybe 0 1 2;}rung 2;"
                    + "times 20{times 8{gate 1;}}times 19{back 0;}");
            REPORT.due("copy", x.copy(0, true, true), 2);
            REPORT.due("its elements", x.ladder(2, 1), 0);
            REPORT.due("its legs", x.ladder(2, 0), 4);
            REPORT.due("copy", x.copy(1, true, false), 3);
            REPORT.due("its elements", x.ladder(3, 1), 200);
            REPORT.due("its maybes", x.ladder(3, 2), 20);
            REPORT.due("the first", x.element(3, 0, 1), 2);
            REPORT.due("the rung", x.element(3, 179, 1), 0);
            REPORT.due("the first maybe", x.element(3, 180, 1), 3);
            REPORT.due("the last", x.element(3, 199, 1), 3);
        });
        REPORT.test("7 a copy of a copy has its own LOGS", () -> {
            LadderLots x = Texts.with("legs 2;maybe 0 1 4;");
            x.copy(0, false, false);
            x.log(0, 0, 1);
            REPORT.due("fitting(0, 1)", x.fitting(0, 1), 1);
            REPORT.due("fitting(1, 1)", x.fitting(1, 1), 4);
            x.copy(0, true, false);
            REPORT.due("fitting(2, 1)", x.fitting(2, 1), 4);
        });
    }

    private static void joins() {
        REPORT.test("8 LADDERS that are there", () -> {
            LadderLots x = holding(3);
            REPORT.due("join of the last", x.join(2, 2), 3);
            REPORT.due("its elements", x.ladder(3, 1), 4);
            REPORT.none("the first of join", t -> x.join(t, 0), -1, 4, 5, 6, MIN, MAX);
            REPORT.none("the second of join", u -> x.join(0, u), -1, 4, 5, 6, MIN, MAX);
            REPORT.due("count(0)", x.count(0), 4);
        });
        REPORT.test("8 a sixth, and no seventh", () -> {
            LadderLots x = holding(5);
            REPORT.due("join", x.join(4, 3), 5);
            REPORT.due("its elements", x.ladder(5, 1), 7);
            REPORT.due("a seventh", x.join(0, 0), -1);
            REPORT.due("count(0)", x.count(0), 6);
            REPORT.due("the sixth still", x.ladder(5, 1), 7);
        });
        REPORT.test("8 of alike LEGS alone", () -> {
            LadderLots x = Texts.with("legs 6;rung 0;", "legs 7;rung 0;", "legs 2;rung 0;");
            for (int t = 0; t < 3; t++) {
                for (int u = 0; u < 3; u++) {
                    if (t != u) {
                        REPORT.due("join of " + t + ", " + u, x.join(t, u), -1);
                    }
                }
            }
            REPORT.due("count(0)", x.count(0), 3);
            REPORT.due("join", x.join(1, 1), 3);
            REPORT.due("legs", x.ladder(3, 0), 7);
        });
        REPORT.test("8 one's and, behind these, the other's", () -> {
            LadderLots x = Texts.with("legs 3;rung 0;gate 1;", "legs 3;maybe 1 0 4;back 0;",
                    "legs 3;");
            x.join(0, 1);
            x.join(1, 0);
            x.join(2, 0);
            REPORT.same("0, 1", Texts.elements(x, 3), "r0g1m1b0");
            REPORT.same("1, 0", Texts.elements(x, 4), "m1b0r0g1");
            REPORT.same("none, 0", Texts.elements(x, 5), "r0g1");
            REPORT.due("a", x.element(4, 0, 2), 0);
            REPORT.due("b", x.element(4, 0, 3), 4);
        });
        REPORT.test("8 of none and none", () -> {
            LadderLots x = Texts.with("legs 3;");
            REPORT.due("join", x.join(0, 0), 1);
            REPORT.due("elements", x.ladder(1, 1), 0);
        });
        REPORT.test("8 to 200 ELEMENTS, and not to 201", () -> {
            LadderLots x = Texts.with("legs 2;" + HUNDRED, "legs 2;" + HUNDRED + "gate 0;",
                    "legs 2;times 11{times 9{back 0;}}");
            REPORT.due("100 and 101", x.join(0, 1), -1);
            REPORT.due("101 and 100", x.join(1, 0), -1);
            REPORT.due("count(0)", x.count(0), 3);
            REPORT.due("100 and 100", x.join(0, 0), 3);
            REPORT.due("elements", x.ladder(3, 1), 200);
            REPORT.due("101 and 99", x.join(1, 2), 4);
            REPORT.due("elements", x.ladder(4, 1), 200);
            REPORT.due("its 101st", x.element(4, 100, 1), 1);
            REPORT.due("its 102nd", x.element(4, 101, 1), 2);
            REPORT.due("its last", x.element(4, 199, 1), 2);
            REPORT.due("200 and 99", x.join(3, 2), -1);
        });
        REPORT.test("8 200 ELEMENTS and none", () -> {
            LadderLots x = Texts.with("legs 2;" + HUNDRED + HUNDRED, "legs 2;", "legs 2;rung 0;");
            REPORT.due("none and 200", x.join(1, 0), 3);
            REPORT.due("200 and none", x.join(0, 1), 4);
            REPORT.due("200 and 1", x.join(0, 2), -1);
            REPORT.due("1 and 200", x.join(2, 0), -1);
            REPORT.due("count(0)", x.count(0), 5);
        });
        REPORT.test("8 to 20 MAYBES, and not to 21", () -> {
            LadderLots x = Texts.with("legs 2;times 10{maybe 0 1 2;}", "legs 2;times 11{maybe 0 1 2;}",
                    "legs 2;times 9{maybe 0 1 3;}rung 0;rung 0;");
            REPORT.due("10 and 11", x.join(0, 1), -1);
            REPORT.due("11 and 10", x.join(1, 0), -1);
            REPORT.due("count(0)", x.count(0), 3);
            REPORT.due("10 and 10", x.join(0, 0), 3);
            REPORT.due("maybes", x.ladder(3, 2), 20);
            REPORT.due("11 and 9", x.join(1, 2), 4);
            REPORT.due("maybes", x.ladder(4, 2), 20);
            REPORT.due("elements", x.ladder(4, 1), 22);
        });
    }

    private static void lots() {
        REPORT.test("9 n of 2 to 7", () -> {
            for (int n = 2; n <= 7; n++) {
                LadderLots x = new LadderLots();
                REPORT.due("lots of " + n, x.lots(7, n, 9, true), 0);
                REPORT.due("legs", x.ladder(0, 0), n);
            }
            LadderLots x = new LadderLots();
            REPORT.none("lots of n", n -> x.lots(7, n, 9, true), -1, 0, 1, 8, 9, MIN, MAX);
            REPORT.due("count(0)", x.count(0), 0);
        });
        REPORT.test("9 m of 0 to 200", () -> {
            LadderLots x = new LadderLots();
            REPORT.due("lots of 0", x.lots(7, 3, 0, true), 0);
            REPORT.due("lots of 200", x.lots(7, 3, 200, true), 1);
            REPORT.due("elements", x.ladder(0, 1), 0);
            REPORT.due("elements", x.ladder(1, 1), 200);
            REPORT.none("lots of m", m -> x.lots(7, 3, m, true), -1, -200, 201, 256, MIN, MAX);
            REPORT.due("count(0)", x.count(0), 2);
        });
        REPORT.test("9 a sixth, and no seventh", () -> {
            LadderLots x = holding(5);
            REPORT.due("lots", x.lots(7, 4, 9, true), 5);
            REPORT.due("a seventh", x.lots(7, 5, 10, true), -1);
            REPORT.due("count(0)", x.count(0), 6);
            REPORT.due("the sixth still", x.ladder(5, 0), 4);
            REPORT.due("the sixth still", x.ladder(5, 1), 9);
        });
        REPORT.test("9 every LEG and kind by its LOT, of each n", () -> {
            for (int n = 2; n <= 7; n++) {
                byLots(20261119, n);
            }
        });
        REPORT.test("9 seeds at which 32 bits wrap", () -> {
            for (int seed : new int[] {0, 1, -1, 9, MIN, MAX, MIN + 1, 1 << 30, -77}) {
                byLots(seed, 7);
                byLots(seed, 4);
            }
        });
        REPORT.test("9 the last of 200 by the LOTS of 398 and 399", () -> {
            LadderLots x = new LadderLots();
            for (int seed = 0; seed < 6; seed++) {
                x.lots(seed, 6, 200, true);
                REPORT.due("leg", x.element(seed, 199, 0), ModelTest.lot(seed, 398) % 5);
                REPORT.due("kind", x.element(seed, 199, 1), ModelTest.lot(seed, 399) % 2);
            }
        });
        REPORT.test("9 without gates RUNGS alone, on the same LEGS", () -> {
            LadderLots x = new LadderLots();
            x.lots(3, 5, 60, true);
            x.lots(3, 5, 60, false);
            REPORT.due("plain", x.ladder(1, 4), 1);
            REPORT.due("not plain", x.ladder(0, 4), 0);
            for (int i = 0; i < 60; i++) {
                REPORT.due("leg", x.element(1, i, 0), x.element(0, i, 0));
            }
        });
        REPORT.test("9 of 2 LEGS all lie on 0", () -> {
            LadderLots x = new LadderLots();
            x.lots(-5, 2, 50, true);
            for (int i = 0; i < 50; i++) {
                REPORT.due("leg", x.element(0, i, 0), 0);
            }
        });
        REPORT.test("9 more ELEMENTS of one SEED begin with the same ones", () -> {
            LadderLots x = new LadderLots();
            x.lots(12, 6, 20, true);
            x.lots(12, 6, 200, true);
            for (int i = 0; i < 20; i++) {
                REPORT.due("leg", x.element(1, i, 0), x.element(0, i, 0));
                REPORT.due("kind", x.element(1, i, 1), x.element(0, i, 1));
            }
        });
    }

    private static void byLots(int seed, int n) {
        LadderLots x = new LadderLots();
        REPORT.due("lots", x.lots(seed, n, 120, true), 0);
        for (int i = 0; i < 120; i++) {
            REPORT.due("leg " + i + " of " + seed, x.element(0, i, 0),
                    ModelTest.lot(seed, 2 * i) % (n - 1));
            REPORT.due("kind " + i + " of " + seed, x.element(0, i, 1),
                    ModelTest.lot(seed, 2 * i + 1) % 2);
        }
    }

    private static void ladders() {
        REPORT.test("10 a LADDER that is there", () -> {
            LadderLots x = holding(2);
            for (int what = 0; what <= 4; what++) {
                int asked = what;
                REPORT.span("ladder(t, " + what + ")", t -> x.ladder(t, asked), 0, 1);
            }
        });
        REPORT.test("10 what of 0 to 4", () -> {
            LadderLots x = holding(2);
            REPORT.span("ladder(1, what)", what -> x.ladder(1, what), 0, 4);
            REPORT.none("ladder(2, what)", what -> x.ladder(2, what), 0, 1, 2, 3, 4, 5);
        });
        REPORT.test("10 an empty one, of 2 and of 7 LEGS", () -> {
            LadderLots x = Texts.with("legs 2;", "legs 7;");
            int[][] due = {{2, 0, 0, 0, 1}, {7, 0, 0, 0, 1}};
            for (int t = 0; t < 2; t++) {
                for (int what = 0; what <= 4; what++) {
                    REPORT.due("ladder " + t + ", " + what, x.ladder(t, what), due[t][what]);
                }
            }
        });
        REPORT.test("10 a full one", () -> {
            LadderLots x = Texts.with("legs 3;times 18{times 10{gate 0;}}times 20{maybe 1 1 2;}");
            int[] due = {3, 200, 20, 200, 0};
            for (int what = 0; what <= 4; what++) {
                REPORT.due("ladder 0, " + what, x.ladder(0, what), due[what]);
            }
        });
        REPORT.test("10 LAYERS: side by side 1, on a LEG of its own one more", () -> {
            LadderLots x = Texts.with("legs 7;rung 0;rung 2;rung 4;", "legs 7;rung 5;rung 3;rung 1;",
                    "legs 3;rung 0;rung 1;", "legs 4;rung 2;rung 1;rung 0;rung 2;",
                    "legs 7;rung 0;rung 0;rung 0;rung 5;", "legs 7;rung 5;rung 5;rung 0;");
            int[] due = {1, 1, 2, 3, 3, 2};
            for (int t = 0; t < due.length; t++) {
                REPORT.due("layers of " + t, x.ladder(t, 3), due[t]);
            }
        });
        REPORT.test("10 PLAIN: RUNGS alone, from the first to the last", () -> {
            String most = "times 19{times 10{rung 0;}}times 9{rung 0;}";
            LadderLots x = Texts.with("legs 2;" + most + "rung 0;", "legs 2;" + most + "gate 0;",
                    "legs 2;back 0;" + most, "legs 2;" + most + "maybe 0 1 1;", "legs 2;gate 0;",
                    "legs 2;rung 0;");
            int[] due = {1, 0, 0, 0, 0, 1};
            for (int t = 0; t < due.length; t++) {
                REPORT.due("plain " + t, x.ladder(t, 4), due[t]);
            }
        });
    }

    private static void elements() {
        String all = "legs 7;rung 5;gate 0;back 4;maybe 5 0 1;maybe 1 4 4;maybe 3 2 3;";
        REPORT.test("11 a LADDER that is there", () -> {
            LadderLots x = Texts.with(all, all);
            REPORT.span("element(t, 0, 0)", t -> x.element(t, 0, 0), 0, 1);
            REPORT.span("element(t, 5, 2)", t -> x.element(t, 5, 2), 0, 1);
        });
        REPORT.test("11 the first ELEMENT to the last", () -> {
            LadderLots x = Texts.with("legs 2;", all, "legs 2;rung 0;",
                    "legs 2;times 20{times 10{rung 0;}}");
            REPORT.none("element(0, i, 0)", i -> x.element(0, i, 0), -1, 0, 1, MIN, MAX);
            REPORT.span("element(1, i, 0)", i -> x.element(1, i, 0), 0, 5);
            REPORT.span("element(2, i, 4)", i -> x.element(2, i, 4), 0, 0);
            REPORT.span("element(3, i, 1)", i -> x.element(3, i, 1), 0, 199);
        });
        REPORT.test("11 what of 0 to 4", () -> {
            LadderLots x = Texts.with(all);
            REPORT.span("element(0, 4, what)", what -> x.element(0, 4, what), 0, 4);
            REPORT.none("element(0, 0, what)", what -> x.element(0, 0, what), -1, 2, 3, 5, 6);
        });
        REPORT.test("11 the LEG and the kind", () -> REPORT.same("elements",
                Texts.elements(Texts.with(all), 0), "r5g0b4m5m1m3"));
        REPORT.test("11 a and b of a MAYBE, NONE of others", () -> {
            LadderLots x = Texts.with(all);
            int[][] due = {{-1, -1}, {-1, -1}, {-1, -1}, {0, 1}, {4, 4}, {2, 3}};
            for (int i = 0; i < due.length; i++) {
                REPORT.due("a of " + i, x.element(0, i, 2), due[i][0]);
                REPORT.due("b of " + i, x.element(0, i, 3), due[i][1]);
            }
        });
        REPORT.test("11 the LAYER: by the greatest above that has a LEG of its own", () -> {
            LadderLots x = Texts.with("legs 7;rung 0;rung 0;rung 3;gate 1;back 2;maybe 5 1 2;"
                    + "rung 4;rung 5;rung 0;");
            int[] due = {1, 2, 1, 3, 4, 1, 2, 3, 4};
            for (int i = 0; i < due.length; i++) {
                REPORT.due("layer of " + i, x.element(0, i, 4), due[i]);
            }
            REPORT.due("the greatest", x.ladder(0, 3), 4);
        });
        REPORT.test("11 LAYERS up to 200, and those of a ladder turned", () -> {
            LadderLots x = Texts.with("legs 3;times 20{times 5{rung 0;rung 1;}}");
            for (int i = 0; i < 200; i++) {
                REPORT.due("layer of " + i, x.element(0, i, 4), i + 1);
            }
            x.copy(0, true, true);
            REPORT.due("the last", x.element(1, 199, 4), 200);
        });
    }

    public static void main(String[] args) {
        copies();
        joins();
        lots();
        ladders();
        elements();
        REPORT.exit();
    }
}
