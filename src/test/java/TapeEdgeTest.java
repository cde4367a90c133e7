/** Promises 1 to 6 and 45: a new object, the tape, reading, and clearing, each at its edges. */
public final class TapeEdgeTest {
    private static final Report REPORT = new Report();
    private static final int MIN = Integer.MIN_VALUE;
    private static final int MAX = Integer.MAX_VALUE;

    private static LadderLots fed(int times) {
        LadderLots x = new LadderLots();
        for (int i = 0; i < times; i++) {
            x.feed(0x20202020, 0x20202020, 0x20202020, 0x20202020, 0x20202020);
        }
        return x;
    }

    private static void newObjects() {
        REPORT.test("1 no LADDERS in a new object", () -> {
            LadderLots x = new LadderLots();
            REPORT.due("count(0)", x.count(0), 0);
            REPORT.none("ladder", t -> x.ladder(t, 0), -1, 0, 1, 5);
            REPORT.due("clear()", x.clear(), 0);
        });
        REPORT.test("1 no LOGS in a new object", () -> {
            LadderLots x = new LadderLots();
            REPORT.due("count(1)", x.count(1), 0);
            REPORT.none("annul", x::annul, -1, 0, 1);
        });
        REPORT.test("1 nothing on a new tape, and no place", () -> {
            LadderLots x = new LadderLots();
            REPORT.due("count(2)", x.count(2), 0);
            REPORT.due("back(0)", x.back(0), 0);
            REPORT.due("back(1)", x.back(1), -1);
            REPORT.due("place()", x.place(), -1);
        });
        REPORT.test("1 one object knows nothing of another", () -> {
            LadderLots x = Texts.with("legs 3;maybe 0 1 2;");
            x.log(0, 0, 0);
            Texts.feed(x, "legs");
            LadderLots y = new LadderLots();
            REPORT.due("count(0)", y.count(0), 0);
            REPORT.due("count(1)", y.count(1), 0);
            REPORT.due("count(2)", y.count(2), 0);
            y.lots(1, 2, 1, false);
            REPORT.due("count(0) of the first", x.count(0), 1);
            REPORT.due("legs of the first", x.ladder(0, 0), 3);
        });
        REPORT.test("1 each LADDER that is there is told, none else", () -> {
            LadderLots x = new LadderLots();
            for (int t = 0; t < 6; t++) {
                REPORT.due("lots", x.lots(t, 2 + t, t, false), t);
                REPORT.span("ladder", at -> x.ladder(at, 0), 0, t);
                REPORT.due("legs", x.ladder(t, 0), 2 + t);
            }
        });
    }

    private static void feeds() {
        REPORT.test("2 the highest byte of a comes first, the lowest of e last", () -> {
            LadderLots x = new LadderLots();
            REPORT.due("feed", x.feed(0x6c656773, 0x20373b72, 0x756e6720, 0x353b6261,
                    0x636b2034), 20);
            REPORT.due("feed", x.feed(0x3b202020, 0x20202020, 0x20202020, 0x20202020,
                    0x2020203b), 40);
            REPORT.due("back(1)", x.back(1), 39);
            REPORT.due("read()", x.read(), 0);
            REPORT.same("elements", Texts.elements(x, 0), "r5b4");
        });
        REPORT.test("2 the last of twenty bytes is read", () -> {
            LadderLots x = new LadderLots();
            x.feed(0x6c656773, 0x20373b20, 0x20202020, 0x20202020, 0x2020203f);
            REPORT.due("read()", x.read(), 1);
            REPORT.due("place()", x.place(), 19);
        });
        REPORT.test("2 bytes with the highest bit", () -> {
            for (int place = 0; place < 20; place++) {
                int[] words = {0x20202020, 0x20202020, 0x20202020, 0x20202020, 0x20202020};
                words[place / 4] |= 0x80 << 8 * (3 - place % 4);
                LadderLots x = Texts.with();
                Texts.feed(x, "legs 3;");
                x.feed(words[0], words[1], words[2], words[3], words[4]);
                REPORT.due("read()", x.read(), 1);
                REPORT.due("place()", x.place(), 7 + place);
            }
        });
        REPORT.test("2 a feed comes behind the tape", () -> {
            LadderLots x = new LadderLots();
            Texts.feed(x, "legs 3;ru");
            Texts.feed(x, "ng 1;");
            REPORT.due("count(2)", x.count(2), 14);
            REPORT.due("read()", x.read(), 0);
            REPORT.same("elements", Texts.elements(x, 0), "r1");
        });
        REPORT.test("2 a tape of 2,000 bytes and no more", () -> {
            LadderLots x = fed(99);
            REPORT.due("the 100th", x.feed(0, 0, 0, 0, 0), 2000);
            REPORT.due("the 101st", x.feed(0, 0, 0, 0, 0), -1);
            REPORT.due("count(2)", x.count(2), 2000);
        });
        REPORT.test("2 a tape of 1,980 bytes takes twenty, of 1,981 to 1,999 none", () -> {
            LadderLots x = fed(100);
            for (int left = 1999; left >= 1981; left--) {
                REPORT.due("back(1)", x.back(1), left);
                REPORT.due("feed at " + left, x.feed(-1, -1, -1, -1, -1), -1);
                REPORT.due("count(2)", x.count(2), left);
            }
            REPORT.due("back(1)", x.back(1), 1980);
            REPORT.due("feed at 1980", x.feed(-1, -1, -1, -1, -1), 2000);
        });
        REPORT.test("2 a refused feed: nothing comes", () -> {
            LadderLots x = new LadderLots();
            Texts.feed(x, "legs 3;" + " ".repeat(1974));
            REPORT.due("feed", x.feed(0x3f3f3f3f, 0x3f3f3f3f, 0x3f3f3f3f, 0x3f3f3f3f,
                    0x3f3f3f3f), -1);
            REPORT.due("count(2)", x.count(2), 1981);
            REPORT.due("read()", x.read(), 0);
            REPORT.due("ladder(0, 0)", x.ladder(0, 0), 3);
        });
        REPORT.test("2 a full tape that was read, or taken back, takes bytes again", () -> {
            LadderLots x = fed(100);
            REPORT.due("read()", x.read(), 1);
            REPORT.due("feed", x.feed(1, 2, 3, 4, 5), 20);
            LadderLots y = fed(100);
            REPORT.due("back(2000)", y.back(2000), 0);
            REPORT.due("feed", y.feed(1, 2, 3, 4, 5), 20);
        });
    }

    private static void backs() {
        REPORT.test("3 all bytes go, none more", () -> {
            LadderLots x = fed(1);
            REPORT.due("back(21)", x.back(21), -1);
            REPORT.due("count(2)", x.count(2), 20);
            REPORT.due("back(20)", x.back(20), 0);
            REPORT.due("back(1)", x.back(1), -1);
        });
        REPORT.test("3 all of a full tape go, none more", () -> {
            LadderLots x = fed(100);
            REPORT.due("back(2001)", x.back(2001), -1);
            REPORT.due("back(2000)", x.back(2000), 0);
        });
        REPORT.test("3 none go: 0", () -> {
            LadderLots x = fed(2);
            REPORT.due("back(0)", x.back(0), 40);
            REPORT.due("count(2)", x.count(2), 40);
        });
        REPORT.test("3 n below 0", () -> {
            LadderLots x = fed(2);
            REPORT.none("back", x::back, -1, -20, -40, -41, MIN, MIN + 1, MIN + 40);
            REPORT.due("count(2)", x.count(2), 40);
        });
        REPORT.test("3 n far above what is there", () -> {
            LadderLots x = fed(2);
            REPORT.none("back", x::back, 41, 2000, 65576, MAX, MAX - 40);
            REPORT.due("count(2)", x.count(2), 40);
        });
        REPORT.test("3 a refused back: nothing goes", () -> {
            LadderLots x = new LadderLots();
            Texts.feed(x, "legs 3;gate 1;");
            x.back(15);
            x.back(-1);
            REPORT.due("read()", x.read(), 0);
            REPORT.same("elements", Texts.elements(x, 0), "g1");
        });
        REPORT.test("3 the last bytes go, and others come in their place", () -> {
            LadderLots x = new LadderLots();
            Texts.feed(x, "legs 3;gate 1;");
            REPORT.due("back(3)", x.back(3), 11);
            Texts.feed(x, "0;");
            REPORT.due("read()", x.read(), 0);
            REPORT.same("elements", Texts.elements(x, 0), "g0");
        });
        REPORT.test("3 what went is not read", () -> {
            LadderLots x = new LadderLots();
            Texts.feed(x, "legs 3;gate 1;");
            REPORT.due("back(1)", x.back(1), 13);
            REPORT.due("read()", x.read(), 1);
            REPORT.due("place()", x.place(), 13);
        });
    }

    private static void reads() {
        REPORT.test("4 the tape is empty behind a ladder and behind a fault", () -> {
            LadderLots x = new LadderLots();
            REPORT.due("read", Texts.read(x, "legs 3;"), 0);
            REPORT.due("count(2)", x.count(2), 0);
            REPORT.due("back(1)", x.back(1), -1);
            REPORT.due("read", Texts.read(x, "legs 1;"), 5);
            REPORT.due("count(2)", x.count(2), 0);
            REPORT.due("back(1)", x.back(1), -1);
            REPORT.due("read() of an empty tape", x.read(), 1);
        });
        REPORT.test("4 six LADDERS are read, a seventh is -2", () -> {
            LadderLots x = new LadderLots();
            for (int t = 0; t < 6; t++) {
                REPORT.due("read", Texts.read(x, "legs " + (2 + t) + ";"), 0);
                REPORT.due("count(0)", x.count(0), t + 1);
            }
            REPORT.due("read", Texts.read(x, "legs 2;"), -2);
            REPORT.due("count(0)", x.count(0), 6);
            REPORT.due("the sixth", x.ladder(5, 0), 7);
        });
        REPORT.test("4 at six LADDERS a faulty text, and none, are -2 too", () -> {
            LadderLots x = Texts.with("legs2;", "legs2;", "legs2;", "legs2;", "legs2;", "legs2;");
            REPORT.due("read() of an empty tape", x.read(), -2);
            REPORT.due("read of ?", Texts.read(x, "?"), -2);
            REPORT.due("count(2)", x.count(2), 1);
        });
        REPORT.test("4 at -2 the tape stays, and is read when there is room", () -> {
            LadderLots x = Texts.with("legs2;", "legs2;", "legs2;", "legs2;", "legs2;", "legs2;");
            REPORT.due("read", Texts.read(x, "legs 5;back 3;"), -2);
            REPORT.due("read()", x.read(), -2);
            REPORT.due("count(2)", x.count(2), 14);
            x.clear();
            REPORT.due("read()", x.read(), 0);
            REPORT.due("count(0)", x.count(0), 1);
            REPORT.due("ladder(0, 0)", x.ladder(0, 0), 5);
            REPORT.same("elements", Texts.elements(x, 0), "b3");
        });
        REPORT.test("4 LADDERS that were turned, joined, and by lots count as well", () -> {
            LadderLots x = Texts.with("legs2;", "legs2;");
            x.copy(0, true, true);
            x.join(0, 1);
            x.lots(1, 2, 3, true);
            REPORT.due("the sixth", Texts.read(x, "legs2;rung0;"), 0);
            REPORT.same("its elements", Texts.elements(x, 5), "r0");
            REPORT.due("a seventh", Texts.read(x, "legs2;"), -2);
        });
        REPORT.test("4 a fault at five LADDERS leaves room for a sixth", () -> {
            LadderLots x = Texts.with("legs2;", "legs2;", "legs2;", "legs2;", "legs2;");
            REPORT.due("read", Texts.read(x, "legs 8;"), 5);
            REPORT.due("count(0)", x.count(0), 5);
            REPORT.due("read", Texts.read(x, "legs 7;"), 0);
            REPORT.due("the sixth", x.ladder(5, 0), 7);
        });
        REPORT.test("4 no part of an earlier text is known to a later one", () -> {
            LadderLots x = Texts.with("legs 3;part a{rung 0;}");
            REPORT.due("read", Texts.read(x, "legs 3;use a;"), 4);
            REPORT.due("read", Texts.read(x, "legs 4;part a{gate 2;}use a;"), 0);
            REPORT.same("elements", Texts.elements(x, 1), "g2");
        });
    }

    private static void places() {
        REPORT.test("5 the place of the latest read()'s fault", () -> {
            LadderLots x = new LadderLots();
            Texts.read(x, "legs 3;rung 2;");
            REPORT.due("place()", x.place(), 12);
            Texts.read(x, "legs 3;use ab;");
            REPORT.due("place()", x.place(), 11);
            Texts.read(x, "?");
            REPORT.due("place()", x.place(), 0);
        });
        REPORT.test("5 NONE without a read()", () -> {
            LadderLots x = new LadderLots();
            Texts.feed(x, "?");
            REPORT.due("place()", x.place(), -1);
        });
        REPORT.test("5 NONE when the latest read() had no fault", () -> {
            LadderLots x = new LadderLots();
            Texts.read(x, "legs 3;rung 2;");
            Texts.read(x, "legs 3;rung 1;");
            REPORT.due("place()", x.place(), -1);
        });
        REPORT.test("5 a read() of -2 leaves the place, of a fault and of none", () -> {
            LadderLots x = Texts.with("legs2;", "legs2;", "legs2;", "legs2;", "legs2;");
            Texts.read(x, "legs 3;rung 2;");
            x.lots(1, 2, 0, false);
            REPORT.due("read", Texts.read(x, "legs 2;rung 1;   ?"), -2);
            REPORT.due("place()", x.place(), 12);
            LadderLots y = Texts.with("legs2;", "legs2;", "legs2;", "legs2;", "legs2;", "legs2;");
            REPORT.due("read", Texts.read(y, "?"), -2);
            REPORT.due("place()", y.place(), -1);
        });
        REPORT.test("5 a fault at the end of a full tape: 2,000", () -> {
            LadderLots x = fed(100);
            x.read();
            REPORT.due("place()", x.place(), 2000);
        });
    }

    private static void clears() {
        REPORT.test("6 all LADDERS are gone: how many", () -> {
            for (int many = 0; many <= 6; many++) {
                LadderLots x = new LadderLots();
                for (int t = 0; t < many; t++) {
                    x.lots(t, 3, t, true);
                }
                REPORT.due("clear()", x.clear(), many);
                REPORT.due("count(0)", x.count(0), 0);
                REPORT.none("ladder", t -> x.ladder(t, 0), 0, 1, 2, 3, 4, 5);
                REPORT.due("clear() again", x.clear(), 0);
            }
        });
        REPORT.test("6 all LOGS and VOIDS are gone", () -> {
            LadderLots x = Texts.with("legs 2;maybe 0 1 2;");
            for (int i = 0; i < 39; i++) {
                x.log(0, 0, 0);
            }
            x.annul(0);
            REPORT.due("clear()", x.clear(), 1);
            REPORT.due("count(1)", x.count(1), 0);
            REPORT.none("annul", x::annul, 0, 1, 39);
            x.lots(1, 2, 0, false);
            REPORT.due("fitting(0, 0)", x.fitting(0, 0), 1);
            REPORT.none("fitting", j -> x.fitting(0, j), 1, 40);
        });
        REPORT.test("6 LADDERS and LOGS are numbered from 0 on again", () -> {
            LadderLots x = Texts.with("legs 2;maybe 0 1 2;", "legs 3;");
            x.log(1, 0, 0);
            x.log(0, 0, 1);
            x.clear();
            REPORT.due("lots", x.lots(1, 4, 0, false), 0);
            REPORT.due("copy", x.copy(0, false, false), 1);
            REPORT.due("log", x.log(1, 3, 3), 0);
            REPORT.due("annul", x.annul(0), 1);
        });
        REPORT.test("6 no LOG of a LADDER that is gone binds one that comes", () -> {
            LadderLots x = Texts.with("legs 2;maybe 0 1 4;");
            x.log(0, 0, 1);
            REPORT.due("fitting(0, 1)", x.fitting(0, 1), 1);
            x.clear();
            Texts.read(x, "legs 2;maybe 0 1 4;");
            REPORT.due("fitting(0, 0)", x.fitting(0, 0), 4);
            x.log(0, 0, 0);
            REPORT.due("fitting(0, 1)", x.fitting(0, 1), 3);
        });
        REPORT.test("6 the tape stays", () -> {
            LadderLots x = Texts.with("legs 2;");
            Texts.feed(x, "legs 6;");
            x.clear();
            REPORT.due("count(2)", x.count(2), 7);
            REPORT.due("read()", x.read(), 0);
            REPORT.due("ladder(0, 0)", x.ladder(0, 0), 6);
        });
        REPORT.test("6 six come again", () -> {
            LadderLots x = new LadderLots();
            for (int round = 0; round < 5; round++) {
                for (int t = 0; t < 6; t++) {
                    REPORT.due("lots", x.lots(t, 2 + (t + round) % 6, 0, false), t);
                    REPORT.due("legs", x.ladder(t, 0), 2 + (t + round) % 6);
                }
                REPORT.due("a seventh", x.lots(1, 2, 0, false), -1);
                REPORT.due("clear()", x.clear(), 6);
            }
        });
    }

    private static void counts() {
        REPORT.test("45 what is 0, 1 or 2", () -> {
            LadderLots x = new LadderLots();
            REPORT.span("count", x::count, 0, 2);
        });
        REPORT.test("45 empty, and full", () -> {
            LadderLots x = fed(0);
            for (int what = 0; what <= 2; what++) {
                REPORT.due("count(" + what + ")", x.count(what), 0);
            }
            for (int t = 0; t < 6; t++) {
                x.lots(1, 2, 1, false);
            }
            for (int i = 0; i < 40; i++) {
                x.log(0, 0, 0);
            }
            for (int i = 0; i < 100; i++) {
                x.feed(0, 0, 0, 0, 0);
            }
            REPORT.due("count(0)", x.count(0), 6);
            REPORT.due("count(1)", x.count(1), 40);
            REPORT.due("count(2)", x.count(2), 2000);
        });
        REPORT.test("45 LOGS and VOIDS are counted together", () -> {
            LadderLots x = Texts.with("legs 2;", "legs 2;");
            x.log(0, 0, 0);
            x.log(1, 0, 0);
            x.annul(0);
            REPORT.due("count(1)", x.count(1), 3);
            x.annul(1);
            REPORT.due("count(1)", x.count(1), 4);
        });
        REPORT.test("45 the constant NONE", () -> REPORT.due("NONE", LadderLots.NONE, -1));
    }

    public static void main(String[] args) {
        newObjects();
        feeds();
        backs();
        reads();
        places();
        clears();
        counts();
        REPORT.exit();
    }
}
