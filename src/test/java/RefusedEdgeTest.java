import java.util.function.ToLongFunction;

/** Calls that are refused, and those that only ask: nothing happens, and later ones are as due. */
public final class RefusedEdgeTest {
    private static final Report REPORT = new Report();
    private static final int MIN = Integer.MIN_VALUE;
    private static final int MAX = Integer.MAX_VALUE;

    /** Three ladders, three logs and a void, a fault's place, and a text on the tape. */
    private static LadderLots some() {
        LadderLots x = Texts.with("legs 3;maybe 0 1 3;rung 1;maybe 1 2 4;", "legs 5;gate 0;back 3;",
                "legs 3;rung 0;");
        x.log(0, 0, 0);
        x.log(1, 4, 3);
        x.log(0, 1, 2);
        x.annul(2);
        Texts.read(x, "legs 3;  rung 2;");
        Texts.feed(x, "legs 4;back 2;");
        return x;
    }

    /** Six ladders, 40 logs and voids, and a full tape whose last byte is wrong. */
    private static LadderLots full() {
        LadderLots x = Texts.with("legs 3;maybe 0 1 3;rung 1;maybe 1 2 4;", "legs 5;gate 0;back 3;");
        x.copy(0, true, true);
        x.join(1, 1);
        x.lots(1, 6, 200, true);
        x.lots(2, 7, 0, true);
        for (int i = 0; i < 40; i++) {
            if (i % 5 == 4) {
                x.annul(i - 1);
            } else {
                x.log(i % 3, i % 3, 0);
            }
        }
        Texts.feed(x, " ".repeat(1999) + "?");
        return x;
    }

    /** What can be asked of an object, but for its tape. */
    private static String state(LadderLots x) {
        StringBuilder told = new StringBuilder();
        told.append(x.count(0)).append(' ').append(x.count(1)).append(' ').append(x.count(2));
        told.append(" place ").append(x.place());
        int logs = x.count(1);
        for (int t = 0; t < 6; t++) {
            told.append(" |");
            for (int what = 0; what < 5; what++) {
                told.append(' ').append(x.ladder(t, what));
            }
            for (int i = 0; i < 4; i++) {
                told.append(' ').append(x.element(t, i, 0)).append(x.element(t, i, 1));
            }
            told.append(" fits ").append(x.fitting(t, 0)).append(' ').append(x.fitting(t, logs));
            told.append(' ').append(x.fitting(t, logs - 1)).append(' ').append(x.next(t, logs));
        }
        return told.toString();
    }

    private static void refused(String name, int want, ToLongFunction<LadderLots> call) {
        REPORT.test(name, () -> {
            LadderLots x = some();
            String before = state(x);
            REPORT.due(name, call.applyAsLong(x), want);
            REPORT.same("state", state(x), before);
            REPORT.due("read() of the tape", x.read(), 0);
            REPORT.same("its elements", Texts.elements(x, 3), "b2");
            REPORT.due("place()", x.place(), -1);
            REPORT.due("a later log", x.log(3, 3, 2), 4);
            REPORT.due("a later void", x.annul(0), 5);
            REPORT.due("a later copy", x.copy(3, false, true), 4);
            REPORT.same("its elements", Texts.elements(x, 4), "g0");
            REPORT.due("a later feed", x.feed(0, 0, 0, 0, 0), 20);
            REPORT.due("a later clear()", x.clear(), 5);
        });
    }

    private static void refusedAtFull(String name, int want, ToLongFunction<LadderLots> call) {
        REPORT.test(name, () -> {
            LadderLots x = full();
            String before = state(x);
            REPORT.due(name, call.applyAsLong(x), want);
            REPORT.same("state", state(x), before);
            REPORT.due("clear()", x.clear(), 6);
            REPORT.due("read() of the tape", x.read(), 1);
            REPORT.due("place()", x.place(), 1999);
            REPORT.due("a later lots", x.lots(3, 4, 5, false), 0);
            REPORT.due("a later log", x.log(0, 3, 3), 0);
        });
    }

    private static void ofSome() {
        refused("3 refused: back of more than there are", -1, x -> x.back(15));
        refused("3 refused: back below 0", -1, x -> x.back(-1));
        refused("7 refused: copy of no LADDER", -1, x -> x.copy(3, true, false));
        refused("7 refused: copy below 0", -1, x -> x.copy(-1, true, false));
        refused("8 refused: join of a first that is none", -1, x -> x.join(3, 0));
        refused("8 refused: join of a second that is none", -1, x -> x.join(0, MAX));
        refused("8 refused: join of unlike LEGS", -1, x -> x.join(0, 1));
        refused("9 refused: lots of 1 LEG", -1, x -> x.lots(1, 1, 5, false));
        refused("9 refused: lots of 8 LEGS", -1, x -> x.lots(1, 8, 5, false));
        refused("9 refused: lots of 201 ELEMENTS", -1, x -> x.lots(1, 5, 201, true));
        refused("9 refused: lots of -1 ELEMENTS", -1, x -> x.lots(1, 5, -1, true));
        refused("28 refused: log of no LADDER", -1, x -> x.log(3, 0, 0));
        refused("28 refused: log of no number", -1, x -> x.log(0, 3, 0));
        refused("28 refused: log of no LEG", -1, x -> x.log(0, 0, 3));
        refused("28 refused: log of a LEG below 0", -1, x -> x.log(1, 0, -1));
        refused("29 refused: annul of no LOG", -1, x -> x.annul(4));
        refused("29 refused: annul below 0", -1, x -> x.annul(-1));
        refused("29 refused: annul of a VOID", -1, x -> x.annul(3));
    }

    private static void ofFull() {
        refusedAtFull("2 refused: feed of a full tape", -1, x -> x.feed(1, 2, 3, 4, 5));
        refusedAtFull("3 refused: back of 2,001", -1, x -> x.back(2001));
        refusedAtFull("4 refused: read() at six LADDERS", -2, LadderLots::read);
        refusedAtFull("7 refused: copy at six", -1, x -> x.copy(0, false, false));
        refusedAtFull("8 refused: join at six", -1, x -> x.join(0, 2));
        refusedAtFull("9 refused: lots at six", -1, x -> x.lots(1, 2, 3, true));
        refusedAtFull("28 refused: a LOG at 40", -1, x -> x.log(1, 0, 0));
        refusedAtFull("29 refused: a VOID at 40", -1, x -> x.annul(0));
        REPORT.test("4 a fault: the tape is empty, the place told, else nothing happens", () -> {
            LadderLots x = some();
            x.back(x.count(2));
            String before = state(x);
            REPORT.due("read", Texts.read(x, "legs 3;  rung 2;"), 5);
            REPORT.same("state", state(x), before);
            REPORT.due("a later log", x.log(2, 0, 0), 4);
            REPORT.due("a later ladder", Texts.read(x, "legs 6;"), 0);
            REPORT.due("its legs", x.ladder(3, 0), 6);
        });
    }

    /** Each call that only asks, of what is there and of what is not. */
    private static long ask(LadderLots x, int promise, int t, int at) {
        switch (promise) {
            case 5: return x.place();
            case 10: return x.ladder(t, at);
            case 11: return x.element(t, at, at);
            case 12: return x.digit(t, at, at);
            case 13: return x.down(t, at, at);
            case 14: return x.ends(t, at, at, at);
            case 15: return x.fewest(t, at);
            case 16: return x.ladders(t, at);
            case 17: return x.rung(t, at, at, at);
            case 18: return x.rank(t);
            case 19: return x.cleared(t);
            case 20: return x.kept(t, at);
            case 21: return x.turns(t, at, at, at);
            case 22: return x.moves(t, at, at, at);
            case 23: return x.classes(t, at);
            case 24: return x.ways(t);
            case 25: return x.odds(t, at, at, at);
            case 26: return x.oddsOf(t, at, at);
            case 27: return x.possible(t, at);
            case 30: return x.fitting(t, at);
            case 31: return x.likely(t, at, at, at);
            case 32: return x.next(t, at);
            case 33: return x.drawn(t, at, at);
            case 34: return x.drawnAt(t, at, at, at);
            case 35: return x.drawnAll(t, at);
            case 36: return x.sorts(t);
            case 37: return x.unsorted(t);
            case 38: return x.fails(t);
            case 39: return x.firstFail(t);
            case 40: return x.idle(t, at);
            case 41: return x.needed(t, at);
            case 42: return x.mend(t);
            case 43: return x.mendAt(t, at);
            case 44: return x.unlike(t, at);
            default: return x.count(at);
        }
    }

    private static boolean changes(int promise) {
        return promise <= 4 || promise >= 6 && promise <= 9 || promise == 28 || promise == 29;
    }

    private static void asked() {
        int[] numbers = {0, 1, 2, 3, 7, MIN, MAX, -1};
        for (int promise = 5; promise <= 45; promise++) {
            int one = promise;
            if (!changes(promise)) {
                REPORT.test(promise + " asks, and changes nothing", () -> {
                    LadderLots x = some();
                    String before = state(x);
                    for (int t : numbers) {
                        for (int at : numbers) {
                            long first = ask(x, one, t, at);
                            REPORT.due("asked again", ask(x, one, t, at), first);
                        }
                    }
                    REPORT.same("state", state(x), before);
                    REPORT.due("read() of the tape", x.read(), 0);
                    REPORT.same("its elements", Texts.elements(x, 3), "b2");
                });
            }
        }
    }

    private static void manyCalls() {
        REPORT.test("45 the 512th call is answered as the first", () -> {
            LadderLots x = new LadderLots();
            for (int i = 0; i < 255; i++) {
                REPORT.due("lots", x.lots(i, 7, 200, true), 0);
                REPORT.due("clear()", x.clear(), 1);
            }
            REPORT.due("count(0)", x.count(0), 0);
            REPORT.due("lots, the 512th", x.lots(7, 7, 3, true), 0);
        });
        REPORT.test("4 a tape is read 250 times", () -> {
            LadderLots x = new LadderLots();
            for (int i = 0; i < 250; i++) {
                x.feed(0x6c656773, 0x20333b20, 0x3f202020, 0x20202020, 0x20202020);
                REPORT.due("read() " + i, x.read(), 1);
            }
            REPORT.due("place()", x.place(), 8);
        });
    }

    public static void main(String[] args) {
        ofSome();
        ofFull();
        asked();
        manyCalls();
        REPORT.exit();
    }
}
