/** Each promise of the document: ordinary inputs, the edges it names, wrong inputs. */
public final class PromiseTest {
    private static final Report REPORT = new Report();
    private static final int MIN = Integer.MIN_VALUE;
    private static final int MAX = Integer.MAX_VALUE;
    private static final String SORTER = "legs 3; gate 0; gate 1; gate 0;";
    private static final String HIDDEN = "legs 3; maybe 0 1 3; rung 1; maybe 1 2 4;";

    private static LadderLots with(String... texts) {
        LadderLots x = new LadderLots();
        for (String text : texts) {
            REPORT.due("read of " + text, Texts.read(x, text), 0);
        }
        return x;
    }

    private static void dueRead(String text, int fault, int place) {
        LadderLots x = new LadderLots();
        REPORT.due("read of " + text, Texts.read(x, text), fault);
        REPORT.due("place in " + text, x.place(), place);
        REPORT.due("ladders behind " + text, x.count(0), fault == 0 ? 1 : 0);
        REPORT.due("tape behind " + text, x.count(2), 0);
    }

    private static void dueElements(LadderLots x, int t, String want) {
        StringBuilder got = new StringBuilder();
        for (int i = 0; i < x.ladder(t, 1); i++) {
            got.append("rgbm".charAt(x.element(t, i, 1))).append(x.element(t, i, 0));
        }
        REPORT.holds("elements " + want + ", not " + got, want.contentEquals(got));
    }

    private static void test01NewObject() {
        LadderLots x = new LadderLots();
        REPORT.due("count(0)", x.count(0), 0);
        REPORT.due("count(1)", x.count(1), 0);
        REPORT.due("count(2)", x.count(2), 0);
        REPORT.due("place()", x.place(), -1);
        REPORT.due("ladder(0, 0)", x.ladder(0, 0), -1);
        REPORT.due("annul(0)", x.annul(0), -1);
        x.lots(1, 3, 4, false);
        REPORT.due("count(0) of another one", new LadderLots().count(0), 0);
    }

    private static void test02Feed() {
        LadderLots x = new LadderLots();
        // "legs3;rung1;" and blanks: the highest byte of each comes first
        REPORT.due("feed", x.feed(0x6c656773, 0x333b7275, 0x6e67313b, 0x20202020, 0x20202020), 20);
        REPORT.due("read()", x.read(), 0);
        dueElements(x, 0, "r1");
        for (int i = 1; i <= 100; i++) {
            REPORT.due("feed " + i, x.feed(-1, 0, i, MIN, MAX), 20 * i);
        }
        REPORT.due("feed of a full tape", x.feed(1, 2, 3, 4, 5), -1);
        REPORT.due("count(2)", x.count(2), 2000);
        x.back(19);
        REPORT.due("feed beyond", x.feed(1, 2, 3, 4, 5), -1);
        REPORT.due("count(2)", x.count(2), 1981);
        x.back(1);
        REPORT.due("feed up to the end", x.feed(1, 2, 3, 4, 5), 2000);
    }

    private static void test03Back() {
        LadderLots x = new LadderLots();
        REPORT.due("back(0)", x.back(0), 0);
        REPORT.due("back(1)", x.back(1), -1);
        Texts.feed(x, "legs 2; rung 0; gate!!!!");
        REPORT.due("back(25)", x.back(25), -1);
        REPORT.due("back(-1)", x.back(-1), -1);
        REPORT.due("back(MIN)", x.back(MIN), -1);
        REPORT.due("back(MAX)", x.back(MAX), -1);
        REPORT.due("count(2)", x.count(2), 24);
        REPORT.due("back(9)", x.back(9), 15);
        REPORT.due("read()", x.read(), 0);
        dueElements(x, 0, "r0");
        Texts.feed(x, "legs");
        REPORT.due("back(4)", x.back(4), 0);
    }

    private static void test04Read() {
        readsTexts();
        readsSyntaxAndRoom();
        readsOtherFaults();
        readsTooLong();
        LadderLots x = with("legs2;", "legs2;", "legs2;", "legs2;", "legs2;");
        REPORT.due("a faulty sixth", Texts.read(x, "legs 1;"), 5);
        REPORT.due("the sixth", Texts.read(x, "legs2;"), 0);
        REPORT.due("the seventh", Texts.read(x, "legs2;rung 0;"), -2);
        REPORT.due("its bytes", x.count(2), 13);
        REPORT.due("a faulty one", Texts.read(x, "?"), -2);
        x.back(1);
        x.clear();
        REPORT.due("read()", x.read(), 0);
        dueElements(x, 0, "r0");
    }

    private static void readsTexts() {
        LadderLots x = with("legs 7;", "legs5;\t\nrung0;gate 3;\rback1;maybe 2 0 1;",
                "legs 4;part ab{rung 0;gate 1;back 2;maybe 0 1 2;}use ab;use ab upside;"
                        + "use ab turned;use ab upside turned;",
                "legs 3;times 2{rung 0;times 3{gate 1;}times 0{back 0;}}rung 1;",
                "legs 3;part a{rung 0;}part b{use a;times 2{use a turned;}}use b;part c{}use c;"
                        + "use b upside;");
        LadderLots y = with("legs 7; part a{rung 0;} part b{rung 1;} part c{rung 2;}"
                + "part d{rung 3;} part e{rung 4;} part f{rung 5;} part g{gate 0;} part h{gate 1;}"
                + "use h; use g; use f; use e; use d; use c; use b; use a;",
                "legs 3; times 2{times 2{rung 1; times 2{gate 0; times 3{rung 0;}}}}",
                "legs 3; part a{times 2{times 2{gate 1; times 2{rung 0;}}}} use a;");
        dueElements(y, 0, "g1g0r5r4r3r2r1r0");
        dueElements(y, 1, Texts.times("r1g0r0r0r0g0r0r0r0", 4));
        dueElements(y, 2, Texts.times("g1r0r0", 4));
        dueElements(x, 0, "");
        dueElements(x, 1, "r0g3b1m2");
        dueElements(x, 2, "r0g1b2m0" + "m0b2g1r0" + "r2b1g0m2" + "m2g0b1r2");
        dueElements(x, 3, "r0g1g1g1" + "r0g1g1g1" + "r1");
        dueElements(x, 4, "r0r1r1" + "r1r1r0");
        dueRead("legs 0003; rung 0001;", 0, -1);
        dueRead("legs 2;times 20{rung 0;}", 0, -1);
        dueRead("legs 2;part abcdefgh{}use abcdefgh;", 0, -1);
    }

    private static void readsSyntaxAndRoom() {
        dueRead("", 1, 0);
        dueRead("  ", 1, 2);
        dueRead("legs", 1, 4);
        dueRead("legs 3", 1, 6);
        dueRead("rung 1;", 1, 0);
        dueRead("legs 3; rung 1", 1, 14);
        dueRead("legs 3; rung 1  ", 1, 16);
        dueRead("legs 3; legs 3;", 1, 8);
        dueRead("legs 3; Rung 1;", 1, 8);
        dueRead("legs 3; rung\u000b1;", 1, 12);
        dueRead("legs 3; rung 12345;", 1, 13);
        dueRead("legs 3; part abcdefghi{}", 1, 13);
        dueRead("legs 3; part rung{}", 1, 13);
        dueRead("legs 3; use upside;", 1, 12);
        dueRead("legs 3; part a{} use a turned upside;", 1, 30);
        dueRead("legs 3; part a{part b{}}", 1, 15);
        dueRead("legs 3; times 1{part b{}}", 1, 16);
        dueRead("legs 3; }", 1, 8);
        dueRead("legs 3; times 1{", 1, 16);
        dueRead("legs 3; maybe 0 1;", 1, 17);
        dueRead("legs 9; rung 9; ?", 1, 16);
        String braces = "legs 3;" + Texts.times("times 1{", 4);
        dueRead(braces + "}}}}", 0, -1);
        dueRead(braces + "times 1{", 2, 46);
        dueRead("legs 3;part a{" + Texts.times("times 1{", 3) + "times 1{", 2, 45);
        StringBuilder parts = new StringBuilder("legs 3;");
        for (char name = 'a'; name < 'i'; name++) {
            parts.append("part ").append(name).append("{}");
        }
        dueRead(parts.toString(), 0, -1);
        dueRead(parts + "part a{}", 2, 71);
        // 3 tokens, 132 times 3 and one more: 400
        String most = "legs2;" + Texts.times("rung0;", 100);
        most += "part z{" + Texts.times("rung0;", 31) + "}";
        dueRead(most, 0, -1);
        dueRead(most + "rung 0;", 2, 800);
        dueRead(most + ";", 1, 800);
        dueRead(most + "?", 1, 800);
    }

    private static void readsOtherFaults() {
        dueRead("legs 3; part a{} part a{}", 3, 22);
        dueRead("legs 3; part a{} part a{rung 9;} use q;", 3, 22);
        dueRead("legs 3; part a{} part b{} part b{} part a{}", 3, 31);
        dueRead("legs 3; use a; part a{}", 4, 12);
        dueRead("legs 3; part a{use a;}", 4, 19);
        dueRead("legs 3; times 2{use b;}", 4, 20);
        dueRead("legs 1;", 5, 5);
        dueRead("legs 8; rung 9;", 5, 5);
        dueRead("legs 0;", 5, 5);
        dueRead("legs 2; rung 1;", 5, 13);
        dueRead("legs 7; gate 6;", 5, 13);
        dueRead("legs 7; gate 5; back 6;", 5, 21);
        dueRead("legs 7; maybe 6 5 9;", 5, 14);
        dueRead("legs 7; maybe 5 5 9;", 5, 18);
        dueRead("legs 7; maybe 5 0 0;", 5, 18);
        dueRead("legs 7; maybe 5 1 0;", 5, 16);
        dueRead("legs 7; maybe 5 4 4;", 0, -1);
        dueRead("legs 2; times 21{}", 5, 14);
        dueRead("legs 2; part a{rung 3;} use b;", 5, 20);
    }

    private static void readsTooLong() {
        dueRead("legs 2; times 10{times 20{rung 0;}}", 0, -1);
        dueRead("legs 2; times 10{times 20{rung 0;}} rung 0;", 6, 36);
        dueRead("legs 2; times 10{times 20{rung 0;}} times 1{rung 0;rung 0;} rung 0;", 6, 36);
        dueRead("legs 2; part a{times 10{times 20{rung 0;}}} use a;", 0, -1);
        dueRead("legs 2; part a{times 10{times 20{rung 0;}} rung 0;}", 6, 13);
        dueRead("legs 2; part a{times 20{maybe 0 1 2;} maybe 0 1 2;}", 6, 13);
        dueRead("legs 2; times 20{maybe 0 1 2;}", 0, -1);
        dueRead("legs 2; times 20{maybe 0 1 2;} maybe 0 1 2;", 6, 31);
        dueRead("legs 2; times 11{times 20{rung 1;}}", 6, 8);
        dueRead("legs 2; rung 1; times 11{times 20{rung 0;}}", 5, 13);
        dueRead("legs 2; times 0{times 20{times 20{rung 0;}}} rung 0;", 0, -1);
        dueRead("legs 2; part a{} part a{times 11{times 20{rung 0;}}}", 3, 22);
        LadderLots x = with("legs 2; times 0{times 20{times 20{gate 0;}}} rung 0;");
        dueElements(x, 0, "r0");
    }

    private static void test05Place() {
        LadderLots x = new LadderLots();
        Texts.read(x, "legs 2; rung 1;");
        REPORT.due("place()", x.place(), 13);
        Texts.feed(x, "legs 2;");
        REPORT.due("place() ahead of read()", x.place(), 13);
        x.read();
        REPORT.due("place() without a fault", x.place(), -1);
        Texts.read(x, "legs 2; !");
        REPORT.due("place()", x.place(), 8);
        x.clear();
        for (int t = 0; t < 6; t++) {
            x.lots(t, 2, 0, false);
        }
        REPORT.due("read()", Texts.read(x, "legs"), -2);
        REPORT.due("place() behind a -2", x.place(), 8);
    }

    private static void test06Clear() {
        LadderLots x = with("legs 2;rung 0;", HIDDEN);
        x.log(1, 0, 1);
        x.annul(0);
        Texts.feed(x, "legs");
        REPORT.due("clear()", x.clear(), 2);
        REPORT.due("count(0)", x.count(0), 0);
        REPORT.due("count(1)", x.count(1), 0);
        REPORT.due("count(2)", x.count(2), 4);
        REPORT.due("ladder(0, 0)", x.ladder(0, 0), -1);
        REPORT.due("clear()", x.clear(), 0);
        x.back(4);
        REPORT.due("read()", Texts.read(x, "legs 3; maybe 0 1 2;"), 0);
        REPORT.due("fitting(0, 0)", x.fitting(0, 0), 2);
        REPORT.due("fitting(0, 1)", x.fitting(0, 1), -1);
        REPORT.due("log(0, 0, 0)", x.log(0, 0, 0), 0);
        REPORT.due("fitting(0, 1)", x.fitting(0, 1), 1);
    }

    private static void test07Copy() {
        LadderLots x = with("legs 5; rung 0; gate 1; back 3; maybe 0 1 3;");
        REPORT.due("copy", x.copy(0, false, false), 1);
        REPORT.due("copy", x.copy(0, true, false), 2);
        REPORT.due("copy", x.copy(0, false, true), 3);
        REPORT.due("copy", x.copy(0, true, true), 4);
        dueElements(x, 1, "r0g1b3m0");
        dueElements(x, 2, "m0b3g1r0");
        dueElements(x, 3, "r3b2g0m3");
        dueElements(x, 4, "m3g0b2r3");
        REPORT.due("element(4, 0, 2)", x.element(4, 0, 2), 1);
        REPORT.due("element(4, 0, 3)", x.element(4, 0, 3), 3);
        REPORT.due("copy of none", x.copy(5, false, false), -1);
        REPORT.due("copy of none", x.copy(-1, true, false), -1);
        REPORT.due("copy of none", x.copy(MAX, true, true), -1);
        REPORT.due("count(0)", x.count(0), 5);
        REPORT.due("the sixth", x.copy(4, false, true), 5);
        REPORT.due("the seventh", x.copy(0, false, false), -1);
        REPORT.due("count(0)", x.count(0), 6);
    }

    private static void test08Join() {
        LadderLots x = with("legs 3; rung 0; gate 1;", "legs 3; maybe 1 1 2;", "legs 4;");
        REPORT.due("join", x.join(0, 1), 3);
        dueElements(x, 3, "r0g1m1");
        REPORT.due("join", x.join(1, 0), 4);
        dueElements(x, 4, "m1r0g1");
        REPORT.due("join of unlike legs", x.join(0, 2), -1);
        REPORT.due("join of none", x.join(0, 5), -1);
        REPORT.due("join of none", x.join(-1, 0), -1);
        REPORT.due("join of none", x.join(MIN, MAX), -1);
        REPORT.due("join with itself", x.join(0, 0), 5);
        dueElements(x, 5, "r0g1r0g1");
        REPORT.due("join of a seventh", x.join(0, 0), -1);
        LadderLots y = with("legs 2; times 20{times 5{rung 0;}}",
                "legs 2; times 20{times 5{rung 0;}} rung 0;", "legs 2;times 10{maybe 0 1 2;}",
                "legs 2;times 11{maybe 0 1 2;}");
        REPORT.due("join to 201", y.join(0, 1), -1);
        REPORT.due("join to 21 maybes", y.join(2, 3), -1);
        REPORT.due("count(0)", y.count(0), 4);
        REPORT.due("join to 200", y.join(0, 0), 4);
        REPORT.due("join to 20 maybes", y.join(2, 2), 5);
        REPORT.due("ladder(4, 1)", y.ladder(4, 1), 200);
        REPORT.due("ladder(5, 2)", y.ladder(5, 2), 20);
    }

    private static void test09Lots() {
        LadderLots x = new LadderLots();
        REPORT.due("lots of no elements", x.lots(5, 7, 0, true), 0);
        REPORT.due("lots", x.lots(0, 2, 200, false), 1);
        REPORT.due("lots of 1 leg", x.lots(0, 1, 3, false), -1);
        REPORT.due("lots of 8 legs", x.lots(0, 8, 3, false), -1);
        REPORT.due("lots of 201", x.lots(0, 3, 201, false), -1);
        REPORT.due("lots of -1", x.lots(0, 3, -1, true), -1);
        REPORT.due("lots of MIN", x.lots(MIN, MIN, MIN, true), -1);
        REPORT.due("count(0)", x.count(0), 2);
        REPORT.due("ladder(1, 1)", x.ladder(1, 1), 200);
        REPORT.due("ladder(1, 4)", x.ladder(1, 4), 1);
        REPORT.due("ladder(0, 4)", x.ladder(0, 4), 1);
        x.lots(-77, 6, 100, true);
        x.lots(-77, 6, 100, false);
        for (int i = 0; i < 100; i++) {
            REPORT.due("leg " + i, x.element(2, i, 0), lot(5, -77, 2 * i));
            REPORT.due("kind " + i, x.element(2, i, 1), lot(2, -77, 2 * i + 1));
            REPORT.due("leg " + i, x.element(3, i, 0), x.element(2, i, 0));
            REPORT.due("kind " + i, x.element(3, i, 1), 0);
        }
        x.lots(1, 2, 1, true);
        REPORT.due("the sixth", x.lots(MAX, 7, 1, true), 5);
        REPORT.due("the seventh", x.lots(1, 2, 1, true), -1);
    }

    private static int lot(int m, int seed, int which) {
        int h = seed;
        h = (h ^ 9) * 1103515245 + 12345;
        h ^= h >>> 15;
        h = (h ^ which) * 1103515245 + 12345;
        h ^= h >>> 15;
        return (h >>> 1) % m;
    }

    private static void test10Ladder() {
        LadderLots x = with("legs 5; rung 0; rung 3; gate 1; rung 1; rung 3; maybe 2 0 4;",
                "legs 2;", "legs 3; rung 0; rung 1;", "legs 3; back 0;");
        int[] due = {5, 6, 1, 4, 0};
        for (int what = 0; what < 5; what++) {
            REPORT.due("ladder(0, " + what + ")", x.ladder(0, what), due[what]);
        }
        REPORT.due("layers of none", x.ladder(1, 3), 0);
        REPORT.due("none is plain", x.ladder(1, 4), 1);
        REPORT.due("plain", x.ladder(2, 4), 1);
        REPORT.due("layers", x.ladder(2, 3), 2);
        REPORT.due("not plain", x.ladder(3, 4), 0);
        REPORT.due("ladder(0, 5)", x.ladder(0, 5), -1);
        REPORT.due("ladder(0, -1)", x.ladder(0, -1), -1);
        REPORT.due("ladder(4, 0)", x.ladder(4, 0), -1);
        REPORT.due("ladder(-1, 0)", x.ladder(-1, 0), -1);
        REPORT.due("ladder(MIN, MAX)", x.ladder(MIN, MAX), -1);
    }

    private static void test11Element() {
        LadderLots x = with("legs 5; rung 0; rung 3; gate 1; back 1; rung 3; maybe 2 0 4;");
        int[][] due = {{0, 0, -1, -1, 1}, {3, 0, -1, -1, 1}, {1, 1, -1, -1, 2},
            {1, 2, -1, -1, 3}, {3, 0, -1, -1, 2}, {2, 3, 0, 4, 4}};
        for (int i = 0; i < due.length; i++) {
            for (int what = 0; what < 5; what++) {
                REPORT.due("element(0, " + i + ", " + what + ")", x.element(0, i, what),
                        due[i][what]);
            }
        }
        REPORT.due("element(0, 0, 5)", x.element(0, 0, 5), -1);
        REPORT.due("element(0, 0, -1)", x.element(0, 0, -1), -1);
        REPORT.due("element(0, 6, 0)", x.element(0, 6, 0), -1);
        REPORT.due("element(0, -1, 0)", x.element(0, -1, 0), -1);
        REPORT.due("element(1, 0, 0)", x.element(1, 0, 0), -1);
        REPORT.due("element(-1, 0, 0)", x.element(-1, 0, 0), -1);
        REPORT.due("element(MAX, MAX, MAX)", x.element(MAX, MAX, MAX), -1);
    }

    private static void test12Digit() {
        LadderLots x = new LadderLots();
        int[] row = {2, 5, 0, 6, 4, 1, 3};
        int order = ((((2 * 6 + 4) * 5 + 0) * 4 + 3) * 3 + 2) * 2;
        for (int i = 0; i < 7; i++) {
            REPORT.due("digit " + i, x.digit(7, order, i), row[i]);
            REPORT.due("first " + i, x.digit(7, 0, i), i);
            REPORT.due("last " + i, x.digit(7, 5039, i), 6 - i);
        }
        REPORT.due("digit(2, 1, 0)", x.digit(2, 1, 0), 1);
        REPORT.due("digit(7, 5040, 0)", x.digit(7, 5040, 0), -1);
        REPORT.due("digit(7, -1, 0)", x.digit(7, -1, 0), -1);
        REPORT.due("digit(7, 0, 7)", x.digit(7, 0, 7), -1);
        REPORT.due("digit(7, 0, -1)", x.digit(7, 0, -1), -1);
        REPORT.due("digit(1, 0, 0)", x.digit(1, 0, 0), -1);
        REPORT.due("digit(8, 0, 0)", x.digit(8, 0, 0), -1);
        REPORT.due("digit(2, 2, 0)", x.digit(2, 2, 0), -1);
        REPORT.due("digit(MIN, MAX, MIN)", x.digit(MIN, MAX, MIN), -1);
    }

    private static void test13Down() {
        LadderLots x = with("legs 3; rung 0; maybe 1 1 2; gate 0; maybe 0 0 4;",
                "legs 3; back 0; back 1;");
        REPORT.due("0 1 2 without maybes: 0 1 2", x.down(0, 0, 0), 0);
        REPORT.due("0 1 2 with the first: 1 2 0", x.down(0, 0, 1), 3);
        REPORT.due("0 1 2 with the second: 1 0 2", x.down(0, 0, 2), 2);
        REPORT.due("0 1 2 with both: 2 1 0", x.down(0, 0, 3), 5);
        REPORT.due("2 1 0 without maybes: 1 2 0", x.down(0, 5, 0), 3);
        REPORT.due("0 1 2 behind backs: 1 2 0", x.down(1, 0, 0), 3);
        REPORT.due("2 0 1 behind backs: 2 1 0", x.down(1, 4, 0), 5);
        REPORT.due("down(0, 0, 4)", x.down(0, 0, 4), -1);
        REPORT.due("down(0, 0, -1)", x.down(0, 0, -1), -1);
        REPORT.due("down(1, 0, 1)", x.down(1, 0, 1), -1);
        REPORT.due("down(0, 6, 0)", x.down(0, 6, 0), -1);
        REPORT.due("down(0, -1, 0)", x.down(0, -1, 0), -1);
        REPORT.due("down(2, 0, 0)", x.down(2, 0, 0), -1);
        REPORT.due("down(-1, 0, 0)", x.down(-1, 0, 0), -1);
        LadderLots y = with("legs 2; times 20{maybe 0 1 2;}");
        REPORT.due("all of 20", y.down(0, 0, 0xfffff), 0);
        REPORT.due("19 of 20", y.down(0, 0, 0xffffe), 1);
        REPORT.due("the last alone", y.down(0, 0, 0x80000), 1);
        REPORT.due("beyond", y.down(0, 0, 0x100000), -1);
        REPORT.due("down(0, 0, MIN)", y.down(0, 0, MIN), -1);
    }

    private static void test14Ends() {
        LadderLots x = with("legs 3; rung 0; maybe 1 1 2; gate 0; maybe 0 0 4;");
        REPORT.due("ends(0, 0, 1, 0)", x.ends(0, 0, 1, 0), 2);
        REPORT.due("ends(0, 0, 1, 1)", x.ends(0, 0, 1, 1), 0);
        REPORT.due("ends(0, 0, 1, 2)", x.ends(0, 0, 1, 2), 1);
        REPORT.due("ends(0, 5, 0, 0)", x.ends(0, 5, 0, 0), 2);
        REPORT.due("ends(0, 0, 0, 3)", x.ends(0, 0, 0, 3), -1);
        REPORT.due("ends(0, 0, 0, -1)", x.ends(0, 0, 0, -1), -1);
        REPORT.due("ends(0, 0, 4, 0)", x.ends(0, 0, 4, 0), -1);
        REPORT.due("ends(0, 6, 0, 0)", x.ends(0, 6, 0, 0), -1);
        REPORT.due("ends(1, 0, 0, 0)", x.ends(1, 0, 0, 0), -1);
        REPORT.due("ends(MIN, ..)", x.ends(MIN, MIN, MIN, MIN), -1);
    }

    private static void test15Fewest() {
        LadderLots x = new LadderLots();
        int[] due = {0, 1, 1, 2, 2, 3};
        for (int order = 0; order < 6; order++) {
            REPORT.due("fewest(3, " + order + ")", x.fewest(3, order), due[order]);
        }
        REPORT.due("fewest(7, 5039)", x.fewest(7, 5039), 21);
        REPORT.due("fewest(7, 720)", x.fewest(7, 720), 1);
        REPORT.due("fewest(2, 2)", x.fewest(2, 2), -1);
        REPORT.due("fewest(3, -1)", x.fewest(3, -1), -1);
        REPORT.due("fewest(1, 0)", x.fewest(1, 0), -1);
        REPORT.due("fewest(8, 0)", x.fewest(8, 0), -1);
        REPORT.due("fewest(MAX, 0)", x.fewest(MAX, 0), -1);
    }

    private static void test16Ladders() {
        LadderLots x = new LadderLots();
        REPORT.due("ladders(7, 5039)", x.ladders(7, 5039), 1100742656L);
        REPORT.due("ladders(6, 719)", x.ladders(6, 719), 292864);
        REPORT.due("ladders(5, 119)", x.ladders(5, 119), 768);
        REPORT.due("ladders(7, 0)", x.ladders(7, 0), 1);
        // 1 0 3 2 5 4: three rungs in any row
        REPORT.due("ladders(6, 1 0 3 2 5 4)", x.ladders(6, 120 + 6 + 1), 6);
        REPORT.due("ladders(4, 24)", x.ladders(4, 24), -1);
        REPORT.due("ladders(4, -1)", x.ladders(4, -1), -1);
        REPORT.due("ladders(1, 0)", x.ladders(1, 0), -1);
        REPORT.due("ladders(8, 0)", x.ladders(8, 0), -1);
        REPORT.due("ladders(MIN, MIN)", x.ladders(MIN, MIN), -1);
    }

    private static void test17Rung() {
        LadderLots x = new LadderLots();
        // 1 0 3 2 5 4, whose least ladders are the rows of the legs 0, 2 and 4
        int[][] words = {{0, 2, 4}, {0, 4, 2}, {2, 0, 4}, {2, 4, 0}, {4, 0, 2}, {4, 2, 0}};
        for (int rank = 0; rank < 6; rank++) {
            for (int i = 0; i < 3; i++) {
                REPORT.due("rung " + i + " of " + rank, x.rung(6, 127, rank, i), words[rank][i]);
            }
        }
        int[] last = {5, 4, 5, 3, 4, 5, 2, 3, 4, 5, 1, 2, 3, 4, 5, 0, 1, 2, 3, 4, 5};
        for (int i = 0; i < 21; i++) {
            REPORT.due("last " + i, x.rung(7, 5039, 1100742655, i), last[i]);
        }
        REPORT.due("i 3", x.rung(6, 127, 0, 3), -1);
        REPORT.due("i -1", x.rung(6, 127, 0, -1), -1);
        REPORT.due("rank 6", x.rung(6, 127, 6, 0), -1);
        REPORT.due("rank -1", x.rung(6, 127, -1, 0), -1);
        REPORT.due("rank 2^32", x.rung(6, 127, 1L << 32, 0), -1);
        REPORT.due("rank MAX", x.rung(6, 127, Long.MAX_VALUE, 0), -1);
        REPORT.due("order 720", x.rung(6, 720, 0, 0), -1);
        REPORT.due("n 8", x.rung(8, 0, 0, 0), -1);
        REPORT.due("MIN", x.rung(MIN, MIN, Long.MIN_VALUE, MIN), -1);
    }

    private static void test18Rank() {
        LadderLots x = with("legs 6; rung 4; rung 0; rung 2;", "legs 3; rung 0; rung 0;",
                "legs 3; gate 0;", "legs 3; rung 1; rung 0; rung 1;", "legs 7;",
                "legs 3; maybe 0 1 1;");
        REPORT.due("rank(0)", x.rank(0), 4);
        REPORT.due("not least", x.rank(1), -2);
        REPORT.due("not plain", x.rank(2), -2);
        REPORT.due("rank(3)", x.rank(3), 1);
        REPORT.due("without rungs", x.rank(4), 0);
        REPORT.due("a maybe", x.rank(5), -2);
        REPORT.due("rank(6)", x.rank(6), -1);
        REPORT.due("rank(-1)", x.rank(-1), -1);
        LadderLots y = with("legs 7; rung 5; rung 4; rung 5; rung 3; rung 4; rung 5; rung 2;"
                + "rung 3; rung 4; rung 5; rung 1; rung 2; rung 3; rung 4; rung 5; rung 0;"
                + "rung 1; rung 2; rung 3; rung 4; rung 5;");
        REPORT.due("the last of all", y.rank(0), 1100742655L);
    }

    private static void test19Cleared() {
        LadderLots x = with("legs 3; rung 0; rung 0;", "legs 3; rung 0; rung 1; rung 0; rung 1;",
                "legs 3; gate 0;", "legs 4; rung 0; rung 2; rung 0; rung 1;", "legs 2;",
                "legs 3; maybe 0 1 2;");
        REPORT.due("cleared(0)", x.cleared(0), 0);
        REPORT.due("cleared(1)", x.cleared(1), 2);
        REPORT.due("cleared(2)", x.cleared(2), -2);
        REPORT.due("cleared(3)", x.cleared(3), 2);
        REPORT.due("cleared(4)", x.cleared(4), 0);
        REPORT.due("cleared(5)", x.cleared(5), -2);
        REPORT.due("cleared(6)", x.cleared(6), -1);
        REPORT.due("cleared(MIN)", x.cleared(MIN), -1);
        LadderLots y = with("legs 2; times 20{times 10{rung 0;}}",
                "legs 2; times 20{times 9{rung 0;}} times 19{rung 0;}");
        REPORT.due("200 rungs of one place", y.cleared(0), 0);
        REPORT.due("199 rungs of one place", y.cleared(1), 1);
    }

    private static void test20Kept() {
        LadderLots x = with("legs 3; rung 0; rung 1; rung 0; rung 1;", "legs 3; rung 0; gate 0;",
                "legs 4; rung 0; rung 2; rung 0; rung 1;");
        // the last one changes 0 and 1, as the first one did
        REPORT.due("kept(0, 0)", x.kept(0, 0), 1);
        REPORT.due("kept(0, 1)", x.kept(0, 1), 2);
        REPORT.due("kept(0, 2)", x.kept(0, 2), -1);
        REPORT.due("kept(0, -1)", x.kept(0, -1), -1);
        REPORT.due("not plain", x.kept(1, 0), -1);
        REPORT.due("kept(2, 0)", x.kept(2, 0), 1);
        REPORT.due("kept(2, 1)", x.kept(2, 1), 3);
        REPORT.due("kept(3, 0)", x.kept(3, 0), -1);
        REPORT.due("kept(MAX, MIN)", x.kept(MAX, MIN), -1);
    }

    private static void test21Turns() {
        LadderLots x = new LadderLots();
        REPORT.due("turns(3, 5, 0, 1)", x.turns(3, 5, 0, 1), 1);
        REPORT.due("turns(6, 127, 0, 5)", x.turns(6, 127, 0, 5), 0);
        REPORT.due("turns(5, 119, 0, 767)", x.turns(5, 119, 0, 767), 10);
        REPORT.due("turns(5, 119, 767, 767)", x.turns(5, 119, 767, 767), 0);
        REPORT.due("turns(5, 119, 0, 768)", x.turns(5, 119, 0, 768), -1);
        REPORT.due("turns(6, 719, 0, 1)", x.turns(6, 719, 0, 1), -2);
        REPORT.due("turns(6, 719, 0, 292864)", x.turns(6, 719, 0, 292864), -1);
        REPORT.due("turns(6, 719, -1, 0)", x.turns(6, 719, -1, 0), -1);
        REPORT.due("turns(3, 6, 0, 0)", x.turns(3, 6, 0, 0), -1);
        REPORT.due("turns(8, 0, 0, 0)", x.turns(8, 0, 0, 0), -1);
        REPORT.due("turns(MIN, ..)", x.turns(MIN, MIN, MAX, MIN), -1);
        REPORT.due("turns(7, 0, 0, 0)", x.turns(7, 0, 0, 0), 0);
    }

    private static void test22Moves() {
        LadderLots x = new LadderLots();
        REPORT.due("moves(3, 5, 0, 1)", x.moves(3, 5, 0, 1), 1);
        // 0 2 4 to 4 2 0: three slides
        REPORT.due("moves(6, 127, 0, 5)", x.moves(6, 127, 0, 5), 3);
        REPORT.due("moves(6, 127, 0, 1)", x.moves(6, 127, 0, 1), 1);
        REPORT.due("moves(5, 119, 0, 767)", x.moves(5, 119, 0, 767), 20);
        REPORT.due("moves(5, 119, 5, 5)", x.moves(5, 119, 5, 5), 0);
        REPORT.due("moves(5, 119, 768, 0)", x.moves(5, 119, 768, 0), -1);
        REPORT.due("moves(7, 5039, 0, 1)", x.moves(7, 5039, 0, 1), -2);
        REPORT.due("moves(7, 5039, 0, 1100742656)", x.moves(7, 5039, 0, 1100742656), -1);
        REPORT.due("moves(7, 5040, 0, 0)", x.moves(7, 5040, 0, 0), -1);
        REPORT.due("moves(1, 0, 0, 0)", x.moves(1, 0, 0, 0), -1);
    }

    private static void test23Classes() {
        LadderLots x = new LadderLots();
        REPORT.due("classes(3, 5)", x.classes(3, 5), 2);
        REPORT.due("classes(4, 23)", x.classes(4, 23), 8);
        REPORT.due("classes(5, 119)", x.classes(5, 119), 62);
        REPORT.due("classes(6, 127)", x.classes(6, 127), 1);
        REPORT.due("classes(7, 0)", x.classes(7, 0), 1);
        REPORT.due("classes(6, 719)", x.classes(6, 719), -2);
        REPORT.due("ladders(7, 827)", x.ladders(7, 827), 810);
        REPORT.due("classes(7, 827)", x.classes(7, 827), -2);
        REPORT.due("classes(3, 6)", x.classes(3, 6), -1);
        REPORT.due("classes(3, -1)", x.classes(3, -1), -1);
        REPORT.due("classes(0, 0)", x.classes(0, 0), -1);
        REPORT.due("classes(MAX, MAX)", x.classes(MAX, MAX), -1);
    }

    private static void test24Ways() {
        LadderLots x = with(HIDDEN, "legs 3; rung 0;", "legs 2; times 20{maybe 0 4 4;}");
        REPORT.due("ways(0)", x.ways(0), 12);
        REPORT.due("ways(1)", x.ways(1), 1);
        REPORT.due("ways(2)", x.ways(2), 1L << 40);
        REPORT.due("ways(3)", x.ways(3), -1);
        REPORT.due("ways(-1)", x.ways(-1), -1);
        REPORT.due("ways(MAX)", x.ways(MAX), -1);
    }

    /** maybe 0 1 3; rung 1; maybe 1 2 4: 0 stays on 0 by 2 of 3 ways. */
    private static void test25Odds() {
        LadderLots x = with(HIDDEN, "legs 2; times 20{maybe 0 4 4;}", "legs 3; gate 0;");
        REPORT.due("odds(0, 0, 0, 0)", x.odds(0, 0, 0, 0), 8);
        REPORT.due("odds(0, 0, 0, 1)", x.odds(0, 0, 0, 1), 2);
        REPORT.due("odds(0, 0, 0, 2)", x.odds(0, 0, 0, 2), 2);
        REPORT.due("odds(0, 0, 2, 0)", x.odds(0, 0, 2, 0), 0);
        REPORT.due("odds(0, 0, 2, 1)", x.odds(0, 0, 2, 1), 6);
        REPORT.due("odds(0, 5, 2, 0)", x.odds(0, 5, 2, 0), 8);
        REPORT.due("always there", x.odds(1, 0, 0, 0), 1L << 40);
        REPORT.due("never away", x.odds(1, 0, 0, 1), 0);
        REPORT.due("without maybes", x.odds(2, 3, 2, 1), 1);
        REPORT.due("without maybes", x.odds(2, 2, 1, 1), 1);
        REPORT.due("odds(0, 6, 0, 0)", x.odds(0, 6, 0, 0), -1);
        REPORT.due("odds(0, -1, 0, 0)", x.odds(0, -1, 0, 0), -1);
        REPORT.due("odds(0, 0, 3, 0)", x.odds(0, 0, 3, 0), -1);
        REPORT.due("odds(0, 0, -1, 0)", x.odds(0, 0, -1, 0), -1);
        REPORT.due("odds(0, 0, 0, 3)", x.odds(0, 0, 0, 3), -1);
        REPORT.due("odds(0, 0, 0, -1)", x.odds(0, 0, 0, -1), -1);
        REPORT.due("odds(3, 0, 0, 0)", x.odds(3, 0, 0, 0), -1);
        REPORT.due("odds(MIN, ..)", x.odds(MIN, MIN, MIN, MIN), -1);
    }

    private static void test26OddsOf() {
        LadderLots x = with(HIDDEN, "legs 2; times 20{maybe 0 1 4;}");
        // there by 1 of 3 and by 2 of 4: 0 2 1, 0 1 2, 1 2 0, 1 0 2
        long[] due = {4, 4, 2, 2, 0, 0};
        for (int end = 0; end < 6; end++) {
            REPORT.due("oddsOf(0, 0, " + end + ")", x.oddsOf(0, 0, end), due[end]);
        }
        REPORT.due("oddsOf(0, 5, 5)", x.oddsOf(0, 5, 5), 4);
        REPORT.due("even of 20", x.oddsOf(1, 0, 0), ((1L << 40) + (1L << 20)) / 2);
        REPORT.due("odd of 20", x.oddsOf(1, 0, 1), ((1L << 40) - (1L << 20)) / 2);
        REPORT.due("oddsOf(0, 0, 6)", x.oddsOf(0, 0, 6), -1);
        REPORT.due("oddsOf(0, 0, -1)", x.oddsOf(0, 0, -1), -1);
        REPORT.due("oddsOf(0, 6, 0)", x.oddsOf(0, 6, 0), -1);
        REPORT.due("oddsOf(2, 0, 0)", x.oddsOf(2, 0, 0), -1);
        REPORT.due("oddsOf(-1, MAX, MAX)", x.oddsOf(-1, MAX, MAX), -1);
    }

    private static void test27Possible() {
        LadderLots x = with(HIDDEN, "legs 2; maybe 0 0 2; maybe 0 3 3;",
                "legs 3; maybe 0 1 2; maybe 1 1 2; gate 0; gate 1; gate 0;");
        REPORT.due("possible(0, 0)", x.possible(0, 0), 4);
        REPORT.due("never and always", x.possible(1, 0), 1);
        REPORT.due("all sorted", x.possible(2, 4), 1);
        REPORT.due("possible(0, 6)", x.possible(0, 6), -1);
        REPORT.due("possible(0, -1)", x.possible(0, -1), -1);
        REPORT.due("possible(3, 0)", x.possible(3, 0), -1);
        REPORT.due("possible(MIN, 0)", x.possible(MIN, 0), -1);
        LadderLots y = with("legs 7; maybe 0 1 2; maybe 1 1 2; maybe 0 1 2; maybe 2 1 2;"
                + "maybe 1 1 2; maybe 0 1 2; maybe 3 1 2; maybe 2 1 2; maybe 1 1 2; maybe 0 1 2;"
                + "maybe 4 1 2; maybe 3 1 2; maybe 2 1 2; maybe 1 1 2; maybe 0 1 2; maybe 5 1 2;"
                + "maybe 4 1 2; maybe 3 1 2; maybe 2 1 2; maybe 1 1 2; ");
        REPORT.due("7 places of 7 but one", y.possible(0, 0), 720 * 6);
    }

    private static void test28Log() {
        LadderLots x = with(HIDDEN, "legs 2;");
        REPORT.due("log(0, 2, 2)", x.log(0, 2, 2), 0);
        REPORT.due("log(1, 2, 0)", x.log(1, 2, 0), -1);
        REPORT.due("log(1, 0, 2)", x.log(1, 0, 2), -1);
        REPORT.due("log(1, -1, 0)", x.log(1, -1, 0), -1);
        REPORT.due("log(1, 0, -1)", x.log(1, 0, -1), -1);
        REPORT.due("log(2, 0, 0)", x.log(2, 0, 0), -1);
        REPORT.due("log(-1, 0, 0)", x.log(-1, 0, 0), -1);
        REPORT.due("log(MAX, MAX, MAX)", x.log(MAX, MAX, MAX), -1);
        REPORT.due("count(1)", x.count(1), 1);
        REPORT.due("annul(0)", x.annul(0), 1);
        for (int i = 2; i < 40; i++) {
            REPORT.due("log " + i, x.log(1, 0, 1), i);
        }
        REPORT.due("a 41st", x.log(1, 0, 1), -1);
        REPORT.due("count(1)", x.count(1), 40);
        REPORT.due("fitting(1, 40)", x.fitting(1, 40), 0);
    }

    private static void test29Annul() {
        LadderLots x = with(HIDDEN);
        REPORT.due("annul(0)", x.annul(0), -1);
        x.log(0, 0, 2);
        x.log(0, 0, 1);
        REPORT.due("annul(0)", x.annul(0), 2);
        REPORT.due("annul of a void", x.annul(2), -1);
        REPORT.due("annul(3)", x.annul(3), -1);
        REPORT.due("annul(-1)", x.annul(-1), -1);
        REPORT.due("annul(MAX)", x.annul(MAX), -1);
        REPORT.due("count(1)", x.count(1), 3);
        REPORT.due("fitting(0, 2)", x.fitting(0, 2), 0);
        REPORT.due("fitting(0, 3)", x.fitting(0, 3), 2);
        REPORT.due("annul(1)", x.annul(1), 3);
        REPORT.due("fitting(0, 4)", x.fitting(0, 4), 12);
        for (int i = 4; i < 40; i++) {
            x.log(0, 0, 0);
        }
        REPORT.due("a 41st", x.annul(4), -1);
        REPORT.due("count(1)", x.count(1), 40);
        x.clear();
        REPORT.due("a log that is gone", x.annul(0), -1);
        REPORT.due("a log that is gone", x.annul(39), -1);
    }

    private static void test30Fitting() {
        LadderLots x = with(HIDDEN, "legs 3; maybe 0 1 2;");
        x.log(0, 0, 0);
        x.log(1, 0, 1);
        x.log(0, 1, 1);
        x.log(0, 1, 2);
        x.annul(2);
        long[] due = {12, 8, 8, 4, 0, 4};
        for (int j = 0; j < 6; j++) {
            REPORT.due("fitting(0, " + j + ")", x.fitting(0, j), due[j]);
            REPORT.due("fitting(1, " + j + ")", x.fitting(1, j), j < 2 ? 2 : 1);
        }
        REPORT.due("fitting(0, 6)", x.fitting(0, 6), -1);
        REPORT.due("fitting(0, -1)", x.fitting(0, -1), -1);
        REPORT.due("fitting(2, 0)", x.fitting(2, 0), -1);
        REPORT.due("fitting(MIN, MIN)", x.fitting(MIN, MIN), -1);
    }

    private static void test31Likely() {
        LadderLots x = with(HIDDEN);
        x.log(0, 0, 0);
        REPORT.due("likely(0, 0, 2, 1)", x.likely(0, 0, 2, 1), 6);
        REPORT.due("likely(0, 0, 1, 0)", x.likely(0, 0, 1, 0), 4);
        REPORT.due("likely(0, 1, 1, 0)", x.likely(0, 1, 1, 0), 0);
        REPORT.due("likely(0, 1, 1, 1)", x.likely(0, 1, 1, 1), 4);
        REPORT.due("likely(0, 1, 2, 2)", x.likely(0, 1, 2, 2), 4);
        REPORT.due("likely(0, 2, 0, 0)", x.likely(0, 2, 0, 0), -1);
        REPORT.due("likely(0, -1, 0, 0)", x.likely(0, -1, 0, 0), -1);
        REPORT.due("likely(0, 0, 3, 0)", x.likely(0, 0, 3, 0), -1);
        REPORT.due("likely(0, 0, -1, 0)", x.likely(0, 0, -1, 0), -1);
        REPORT.due("likely(0, 0, 0, 3)", x.likely(0, 0, 0, 3), -1);
        REPORT.due("likely(0, 0, 0, -1)", x.likely(0, 0, 0, -1), -1);
        REPORT.due("likely(1, 0, 0, 0)", x.likely(1, 0, 0, 0), -1);
    }

    private static void test32Next() {
        // 0 ends on 0 by 8 of 12 at most, 1 on 1 or 2 by 4, 2 on 1 or 2 by 6
        LadderLots x = with(HIDDEN, "legs 3; rung 0;");
        REPORT.due("next(0, 0)", x.next(0, 0), 1);
        x.log(0, 0, 0);
        REPORT.due("alike ones", x.next(0, 1), 1);
        REPORT.due("without maybes", x.next(1, 0), 0);
        x.log(0, 2, 0);
        REPORT.due("no fitting ways", x.next(0, 2), 0);
        REPORT.due("next(0, 3)", x.next(0, 3), -1);
        REPORT.due("next(0, -1)", x.next(0, -1), -1);
        REPORT.due("next(2, 0)", x.next(2, 0), -1);
        REPORT.due("next(-1, MAX)", x.next(-1, MAX), -1);
    }

    private static void test33Drawn() {
        LadderLots x = with("legs 4; rung 0; rung 1;", "legs 7;", "legs 3; gate 0;");
        REPORT.due("drawn(0, 0, 2)", x.drawn(0, 0, 2), 0);
        REPORT.due("drawn(0, 0, 0)", x.drawn(0, 0, 0), 1);
        REPORT.due("drawn(0, 3, 0)", x.drawn(0, 3, 0), 2);
        REPORT.due("drawn(1, 0, 6)", x.drawn(1, 0, 6), 6);
        REPORT.due("drawn(2, 0, 0)", x.drawn(2, 0, 0), -2);
        REPORT.due("drawn(2, 3, 0)", x.drawn(2, 3, 0), -1);
        REPORT.due("drawn(0, 4, 0)", x.drawn(0, 4, 0), -1);
        REPORT.due("drawn(0, -1, 0)", x.drawn(0, -1, 0), -1);
        REPORT.due("drawn(0, 0, 4)", x.drawn(0, 0, 4), -1);
        REPORT.due("drawn(0, 0, -1)", x.drawn(0, 0, -1), -1);
        REPORT.due("drawn(3, 0, 0)", x.drawn(3, 0, 0), -1);
        REPORT.due("drawn(MIN, MIN, MIN)", x.drawn(MIN, MIN, MIN), -1);
    }

    private static void test34DrawnAt() {
        LadderLots x = with("legs 4; rung 0; rung 1;", "legs 7;", "legs 3; gate 0;",
                "legs 2; times 20{times 10{rung 0;}}");
        // at gap 0 from 3 to 2 and to 1, from where the first rung leads to 0
        REPORT.due("drawnAt(0, 3, 0, 0)", x.drawnAt(0, 3, 0, 0), 2);
        REPORT.due("drawnAt(0, 3, 0, 1)", x.drawnAt(0, 3, 0, 1), 1);
        REPORT.due("drawnAt(0, 3, 0, 2)", x.drawnAt(0, 3, 0, 2), -1);
        REPORT.due("drawnAt(0, 0, 2, 0)", x.drawnAt(0, 0, 2, 0), -1);
        // by a rung ahead of the first one, or behind it: the lesser gap
        REPORT.due("drawnAt(0, 0, 0, 0)", x.drawnAt(0, 0, 0, 0), 0);
        // to 1 behind the first rung, which would lead it on to 0 ahead of that
        REPORT.due("drawnAt(0, 2, 2, 0)", x.drawnAt(0, 2, 2, 0), 11);
        REPORT.due("drawnAt(0, 0, 3, 0)", x.drawnAt(0, 0, 3, 0), 22);
        for (int i = 0; i < 6; i++) {
            REPORT.due("right " + i, x.drawnAt(1, 0, 6, i), i);
            REPORT.due("left " + i, x.drawnAt(1, 6, 0, i), 5 - i);
        }
        REPORT.due("ahead of all", x.drawnAt(3, 0, 1, 0), 0);
        REPORT.due("drawnAt(1, 0, 6, 6)", x.drawnAt(1, 0, 6, 6), -1);
        REPORT.due("drawnAt(1, 0, 6, -1)", x.drawnAt(1, 0, 6, -1), -1);
        REPORT.due("drawnAt(2, 0, 1, 0)", x.drawnAt(2, 0, 1, 0), -1);
        REPORT.due("drawnAt(0, 4, 0, 0)", x.drawnAt(0, 4, 0, 0), -1);
        REPORT.due("drawnAt(0, 0, 4, 0)", x.drawnAt(0, 0, 4, 0), -1);
        REPORT.due("drawnAt(4, 0, 0, 0)", x.drawnAt(4, 0, 0, 0), -1);
        REPORT.due("drawnAt(MAX, ..)", x.drawnAt(MAX, MAX, MAX, MAX), -1);
    }

    private static void test35DrawnAll() {
        LadderLots x = with("legs 3; rung 0; rung 1;", "legs 5;", "legs 3; gate 0;",
                "legs 6; rung 0;", "legs 6; back 0;");
        // 1 2 0 is its end; 0 1 2 comes by a rung at gap 1 and one more
        REPORT.due("drawnAll(0, 3)", x.drawnAll(0, 3), 0);
        REPORT.due("drawnAll(0, 0)", x.drawnAll(0, 0), 2);
        REPORT.due("drawnAll(0, 5)", x.drawnAll(0, 5), 1);
        REPORT.due("drawnAll(1, 119)", x.drawnAll(1, 119), 10);
        REPORT.due("drawnAll(1, 0)", x.drawnAll(1, 0), 0);
        REPORT.due("drawnAll(2, 0)", x.drawnAll(2, 0), -2);
        REPORT.due("drawnAll(2, 6)", x.drawnAll(2, 6), -1);
        REPORT.due("drawnAll(3, 0)", x.drawnAll(3, 0), -3);
        REPORT.due("drawnAll(3, 720)", x.drawnAll(3, 720), -1);
        REPORT.due("drawnAll(4, 0)", x.drawnAll(4, 0), -2);
        REPORT.due("drawnAll(0, -1)", x.drawnAll(0, -1), -1);
        REPORT.due("drawnAll(5, 0)", x.drawnAll(5, 0), -1);
        REPORT.due("drawnAll(MIN, MAX)", x.drawnAll(MIN, MAX), -1);
    }

    private static void test36Sorts() {
        LadderLots x = with(SORTER, "legs 3; gate 0; gate 1;", "legs 3; maybe 0 0 1;",
                "legs 2; back 0; rung 0;", "legs 2;", "legs 4; gate 0; gate 2; gate 1; gate 0;"
                        + "gate 2; gate 1;");
        REPORT.due("sorts(0)", x.sorts(0), 1);
        REPORT.due("sorts(1)", x.sorts(1), 0);
        REPORT.due("sorts(2)", x.sorts(2), -2);
        REPORT.due("sorts(3)", x.sorts(3), 1);
        REPORT.due("sorts(4)", x.sorts(4), 0);
        REPORT.due("sorts(5)", x.sorts(5), 1);
        REPORT.due("sorts(6)", x.sorts(6), -1);
        REPORT.due("sorts(MIN)", x.sorts(MIN), -1);
        x.clear();
        REPORT.due("7 legs", Texts.read(x, "legs 7; times 7{gate 0; gate 1; gate 2; gate 3;"
                + "gate 4; gate 5;}"), 0);
        REPORT.due("sorts(0)", x.sorts(0), 1);
    }

    private static void test37Unsorted() {
        LadderLots x = with(SORTER, "legs 3; gate 0; gate 1;", "legs 3; maybe 0 0 1;", "legs 7;",
                "legs 7; back 5;");
        REPORT.due("unsorted(0)", x.unsorted(0), 0);
        REPORT.due("unsorted(1)", x.unsorted(1), 2);
        REPORT.due("unsorted(2)", x.unsorted(2), -2);
        REPORT.due("unsorted(3)", x.unsorted(3), 5039);
        REPORT.due("unsorted(4)", x.unsorted(4), 5040);
        REPORT.due("unsorted(5)", x.unsorted(5), -1);
        REPORT.due("unsorted(-1)", x.unsorted(-1), -1);
    }

    private static void test38Fails() {
        LadderLots x = with(SORTER, "legs 3; gate 0; gate 1;", "legs 3; maybe 0 0 1;", "legs 7;",
                "legs 6;");
        REPORT.due("fails(0)", x.fails(0), 0);
        REPORT.due("fails(1)", x.fails(1), 1);
        REPORT.due("fails(2)", x.fails(2), -2);
        REPORT.due("fails(3)", x.fails(3), 120);
        REPORT.due("fails(4)", x.fails(4), 57);
        REPORT.due("fails(5)", x.fails(5), -1);
        REPORT.due("fails(MAX)", x.fails(MAX), -1);
    }

    private static void test39FirstFail() {
        LadderLots x = with(SORTER, "legs 3; gate 0; gate 1;", "legs 3; maybe 0 0 1;",
                "legs 7; times 7{gate 0; gate 1; gate 2; gate 3; gate 4;}",
                "legs 3; gate 1;", "legs 3; rung 0;");
        REPORT.due("all are sorted", x.firstFail(0), -3);
        REPORT.due("1 1 0 becomes 1 0 1", x.firstFail(1), 3);
        REPORT.due("firstFail(2)", x.firstFail(2), -2);
        REPORT.due("six are sorted", x.firstFail(3), 1);
        REPORT.due("firstFail(4)", x.firstFail(4), 1);
        REPORT.due("firstFail(5)", x.firstFail(5), 1);
        REPORT.due("firstFail(6)", x.firstFail(6), -1);
        // legs 0 to 5 are sorted, and leg 6 comes no farther left than leg 2
        LadderLots y = with("legs 7; times 6{gate 0; gate 1; gate 2; gate 3; gate 4;}"
                + "gate 5; gate 4; gate 3; gate 2;",
                // leg 6 comes to leg 0 first, and as the greatest no farther right than leg 5
                "legs 7; rung 5; rung 4; rung 3; rung 2; rung 1; rung 0;"
                + "times 6{gate 5; gate 4; gate 3; gate 2; gate 1;}"
                + "gate 0; gate 1; gate 2; gate 3; gate 4;");
        REPORT.due("five ones on the left", y.firstFail(0), 31);
        REPORT.due("a one on leg 6 alone", y.firstFail(1), 64);
        REPORT.due("no other fails", y.fails(1), 1);
        REPORT.due("all orders with 6 on leg 6", y.unsorted(1), 720);
    }

    private static void test40Idle() {
        LadderLots x = with("legs 3; gate 0; gate 0; back 0; back 0; rung 0;",
                "legs 3; maybe 0 0 1; gate 1;", SORTER + "gate 1;");
        int[] due = {0, 1, 0, 1, 0};
        for (int i = 0; i < 5; i++) {
            REPORT.due("idle(0, " + i + ")", x.idle(0, i), due[i]);
        }
        REPORT.due("behind a sorter", x.idle(2, 3), 1);
        LadderLots y = with("legs 7; rung 5; gate 5; back 4; gate 5;", "legs 7; back 5; back 5;");
        REPORT.due("changes with a one from leg 6 alone", y.idle(0, 1), 0);
        REPORT.due("a lesser one came to leg 5", y.idle(0, 3), 1);
        REPORT.due("changes with a one on leg 6 alone", y.idle(1, 0), 0);
        REPORT.due("idle(1, 1)", y.idle(1, 1), 1);
        REPORT.due("its last", x.idle(2, 2), 0);
        REPORT.due("idle(1, 1)", x.idle(1, 1), -2);
        REPORT.due("idle(1, 2)", x.idle(1, 2), -1);
        REPORT.due("idle(0, 5)", x.idle(0, 5), -1);
        REPORT.due("idle(0, -1)", x.idle(0, -1), -1);
        REPORT.due("idle(3, 0)", x.idle(3, 0), -1);
        REPORT.due("idle(MIN, MAX)", x.idle(MIN, MAX), -1);
    }

    private static void test41Needed() {
        LadderLots x = with(SORTER, SORTER + "gate 0; gate 1;", "legs 3; maybe 0 0 1;",
                "legs 3; gate 0;", SORTER + "rung 0;");
        REPORT.due("needed(0, 0)", x.needed(0, 0), 1);
        REPORT.due("needed(0, 2)", x.needed(0, 2), 1);
        REPORT.due("needed(1, 0)", x.needed(1, 0), 0);
        REPORT.due("needed(1, 1)", x.needed(1, 1), 1);
        REPORT.due("needed(1, 4)", x.needed(1, 4), 0);
        REPORT.due("of one that sorts never", x.needed(3, 0), 1);
        REPORT.due("of one that sorts without", x.needed(4, 3), 0);
        REPORT.due("needed(2, 0)", x.needed(2, 0), -2);
        REPORT.due("needed(2, 1)", x.needed(2, 1), -1);
        REPORT.due("needed(0, 3)", x.needed(0, 3), -1);
        REPORT.due("needed(0, -1)", x.needed(0, -1), -1);
        REPORT.due("needed(5, 0)", x.needed(5, 0), -1);
        REPORT.due("needed(MAX, MIN)", x.needed(MAX, MIN), -1);
    }

    private static void test42Mend() {
        LadderLots x = with(SORTER, "legs 3; gate 0; gate 1;", "legs 3; maybe 0 0 1;", "legs 5;",
                "legs 6;", "legs 6; maybe 0 1 1;");
        REPORT.due("mend(0)", x.mend(0), 0);
        REPORT.due("mend(1)", x.mend(1), 1);
        REPORT.due("mend(2)", x.mend(2), -2);
        REPORT.due("mend(3)", x.mend(3), 10);
        REPORT.due("mend(4)", x.mend(4), -3);
        REPORT.due("mend(5)", x.mend(5), -2);
        REPORT.due("mend(6)", x.mend(6), -1);
        REPORT.due("mend(-1)", x.mend(-1), -1);
        x.clear();
        Texts.read(x, "legs 2; rung 0;");
        REPORT.due("a rung needs a gate", x.mend(0), 1);
    }

    private static void test43MendAt() {
        LadderLots x = with(SORTER, "legs 3; gate 0; gate 1;", "legs 3; maybe 0 0 1;", "legs 5;",
                "legs 6;");
        REPORT.due("mendAt(0, 0)", x.mendAt(0, 0), -1);
        REPORT.due("mendAt(1, 0)", x.mendAt(1, 0), 0);
        REPORT.due("mendAt(1, 1)", x.mendAt(1, 1), -1);
        int[] due = {0, 1, 0, 2, 1, 0, 3, 2, 1, 0};
        for (int i = 0; i < 10; i++) {
            REPORT.due("mendAt(3, " + i + ")", x.mendAt(3, i), due[i]);
        }
        REPORT.due("mendAt(3, 10)", x.mendAt(3, 10), -1);
        REPORT.due("mendAt(3, -1)", x.mendAt(3, -1), -1);
        REPORT.due("mendAt(2, 0)", x.mendAt(2, 0), -1);
        REPORT.due("mendAt(4, 0)", x.mendAt(4, 0), -1);
        REPORT.due("mendAt(5, 0)", x.mendAt(5, 0), -1);
        REPORT.due("mendAt(MIN, MIN)", x.mendAt(MIN, MIN), -1);
    }

    private static void test44Unlike() {
        LadderLots x = with(SORTER, "legs 3; gate 1; gate 0; gate 1;", "legs 3; gate 0; gate 1;",
                "legs 4;", "legs 3; maybe 0 0 1;", "legs 3;");
        REPORT.due("unlike(0, 0)", x.unlike(0, 0), 0);
        REPORT.due("unlike(0, 1)", x.unlike(0, 1), 0);
        REPORT.due("unlike(0, 2)", x.unlike(0, 2), 2);
        REPORT.due("unlike(2, 0)", x.unlike(2, 0), 2);
        REPORT.due("unlike(0, 5)", x.unlike(0, 5), 5);
        REPORT.due("unlike legs", x.unlike(0, 3), -2);
        REPORT.due("maybes", x.unlike(0, 4), -2);
        REPORT.due("maybes", x.unlike(4, 0), -2);
        REPORT.due("maybes twice", x.unlike(4, 4), -2);
        REPORT.due("unlike(4, 6)", x.unlike(4, 6), -1);
        REPORT.due("unlike(-1, 0)", x.unlike(-1, 0), -1);
        REPORT.due("unlike(MAX, MIN)", x.unlike(MAX, MIN), -1);
    }

    private static void test45Count() {
        LadderLots x = with(HIDDEN, HIDDEN);
        x.log(0, 0, 0);
        x.annul(0);
        x.log(1, 0, 0);
        Texts.feed(x, "legs 2");
        REPORT.due("count(0)", x.count(0), 2);
        REPORT.due("count(1)", x.count(1), 3);
        REPORT.due("count(2)", x.count(2), 6);
        REPORT.due("count(3)", x.count(3), -1);
        REPORT.due("count(-1)", x.count(-1), -1);
        REPORT.due("count(MIN)", x.count(MIN), -1);
        REPORT.due("count(MAX)", x.count(MAX), -1);
    }

    private static void run(int promise) {
        switch (promise) {
            case 1: test01NewObject(); break;
            case 2: test02Feed(); break;
            case 3: test03Back(); break;
            case 4: test04Read(); break;
            case 5: test05Place(); break;
            case 6: test06Clear(); break;
            case 7: test07Copy(); break;
            case 8: test08Join(); break;
            case 9: test09Lots(); break;
            case 10: test10Ladder(); break;
            case 11: test11Element(); break;
            case 12: test12Digit(); break;
            case 13: test13Down(); break;
            case 14: test14Ends(); break;
            case 15: test15Fewest(); break;
            case 16: test16Ladders(); break;
            case 17: test17Rung(); break;
            case 18: test18Rank(); break;
            case 19: test19Cleared(); break;
            case 20: test20Kept(); break;
            case 21: test21Turns(); break;
            case 22: test22Moves(); break;
            case 23: test23Classes(); break;
            case 24: test24Ways(); break;
            case 25: test25Odds(); break;
            case 26: test26OddsOf(); break;
            case 27: test27Possible(); break;
            case 28: test28Log(); break;
            case 29: test29Annul(); break;
            case 30: test30Fitting(); break;
            case 31: test31Likely(); break;
            case 32: test32Next(); break;
            case 33: test33Drawn(); break;
            case 34: test34DrawnAt(); break;
            case 35: test35DrawnAll(); break;
            case 36: test36Sorts(); break;
            case 37: test37Unsorted(); break;
            case 38: test38Fails(); break;
            case 39: test39FirstFail(); break;
            case 40: test40Idle(); break;
            case 41: test41Needed(); break;
            case 42: test42Mend(); break;
            case 43: test43MendAt(); break;
            case 44: test44Unlike(); break;
            default: test45Count(); break;
        }
    }

    public static void main(String[] args) {
        for (int promise = 1; promise <= 45; promise++) {
            REPORT.begin("promise " + promise);
            run(promise);
            REPORT.end();
        }
        REPORT.exit();
    }
}
