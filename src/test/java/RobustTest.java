import java.util.Random;

/** Wild calls: none throws, all end, and the same calls always give the same answers. */
public final class RobustTest {
    private static final Report REPORT = new Report();
    private static final int CALLS = 512;
    private static final String[] TEXTS = {"legs 3; gate 0; gate 1; gate 0;",
        "legs 5; maybe 0 1 2; rung 3; maybe 2 0 4; back 1; maybe 3 4 4;",
        "legs 7; part a{rung 0; rung 3; gate 5;} times 9{use a; use a turned upside;}",
        "legs 4; times 20{maybe 1 1 3;} rung 0;", "legs 6; times 7{rung 4; rung 1;}",
        "legs 3; rung 2;", "legs 2; use b;", "part", "legs 2; times 30{times 20{rung 0;}}"};
    private static final int[] EXTREMES = {Integer.MIN_VALUE, Integer.MAX_VALUE, -1, -2, 8, 40, 41,
        119, 120, 719, 720, 5039, 5040, 800, 200, 201, 1 << 20, 65536};

    private final Random random;

    private RobustTest(long seed) {
        random = new Random(seed);
    }

    private int any() {
        switch (random.nextInt(8)) {
            case 0:
                return EXTREMES[random.nextInt(EXTREMES.length)];
            case 1:
                return random.nextInt();
            case 2:
                return random.nextInt(800);
            case 3:
                return random.nextInt(24);
            default:
                return random.nextInt(6);
        }
    }

    private int some(int most) {
        return random.nextInt(9) == 0 ? any() : random.nextInt(most);
    }

    private int legs() {
        return 2 + some(6);
    }

    private long call(LadderLots x) {
        int t = some(6);
        switch (random.nextInt(48)) {
            case 0: return x.feed(any(), random.nextInt(), any(), any(), any());
            case 1: return x.back(any());
            case 2: return x.read();
            case 3: return x.place();
            case 4: return random.nextInt(20) == 0 ? x.clear() : x.count(any());
            case 5: return x.copy(t, random.nextBoolean(), random.nextBoolean());
            case 6: return x.join(t, some(6));
            case 7: return x.lots(any(), legs(), any(), random.nextBoolean());
            case 8: return x.ladder(t, some(6));
            case 9: return x.element(t, any(), some(6));
            case 10: return x.digit(legs(), any(), some(7));
            case 11: return x.down(t, any(), any());
            case 12: return x.ends(t, any(), any(), some(7));
            case 13: return x.fewest(legs(), any());
            case 14: return x.ladders(legs(), any());
            case 15: return x.rung(legs(), any(), random.nextBoolean() ? any()
                    : random.nextLong(), any());
            case 16: return x.rank(t);
            case 17: return x.cleared(t);
            case 18: return x.kept(t, any());
            case 19: return x.turns(legs(), any(), any(), any());
            case 20: return x.moves(legs(), any(), any(), any());
            case 21: return x.classes(legs(), any());
            case 22: return x.ways(t);
            case 23: return x.odds(t, any(), some(7), some(7));
            case 24: return x.oddsOf(t, any(), any());
            case 25: return x.possible(t, any());
            case 26: return x.log(t, some(7), some(7));
            case 27: return x.annul(some(40));
            case 28: return x.fitting(t, some(40));
            case 29: return x.likely(t, some(40), some(7), some(7));
            case 30: return x.next(t, some(40));
            case 31: return x.drawn(t, some(7), some(7));
            case 32: return x.drawnAt(t, some(7), some(7), some(7));
            case 33: return x.drawnAll(t, any());
            case 34: return x.sorts(t);
            case 35: return x.unsorted(t);
            case 36: return x.fails(t);
            case 37: return x.firstFail(t);
            case 38: return x.idle(t, any());
            case 39: return x.needed(t, any());
            case 40: return x.mend(t);
            case 41: return x.mendAt(t, some(11));
            case 42: return x.unlike(t, some(6));
            case 43: return x.count(some(4));
            default:
                x.back(x.count(2));
                return Texts.read(x, TEXTS[random.nextInt(TEXTS.length)]);
        }
    }

    private static void testWild() {
        REPORT.begin("wild calls neither throw nor differ");
        for (int run = 0; run < 200; run++) {
            LadderLots one = new LadderLots();
            LadderLots other = new LadderLots();
            RobustTest calls = new RobustTest(run);
            RobustTest same = new RobustTest(run);
            for (int i = 0; i < CALLS; i++) {
                long got;
                try {
                    got = calls.call(one);
                } catch (RuntimeException thrown) {
                    REPORT.holds("no " + thrown + " in run " + run + ", call " + i, false);
                    break;
                }
                REPORT.due("run " + run + ", call " + i, same.call(other), got);
            }
        }
        REPORT.end();
    }

    /** What was kept of earlier answers must not be told of later ladders or calls. */
    private static void testNothingStale() {
        REPORT.begin("answers are those of an object to which only what is needed was told");
        for (int run = 0; run < 60; run++) {
            Random random = new Random(run);
            LadderLots used = new LadderLots();
            for (int round = 0; round < 8; round++) {
                String text = TEXTS[random.nextInt(5)];
                LadderLots fresh = new LadderLots();
                if (used.count(0) == 6 || random.nextInt(3) == 0) {
                    used.clear();
                }
                int t = used.count(0);
                Texts.read(used, text);
                Texts.read(fresh, text);
                int number = random.nextInt(2);
                int log = used.log(t, number, 1);
                fresh.log(0, number, 1);
                dueAlike(used, t, log, fresh, random.nextInt(6));
            }
        }
        REPORT.end();
    }

    private static void dueAlike(LadderLots used, int t, int log, LadderLots fresh, int order) {
        REPORT.due("oddsOf", used.oddsOf(t, order, 1), fresh.oddsOf(0, order, 1));
        REPORT.due("odds", used.odds(t, order, 0, 1), fresh.odds(0, order, 0, 1));
        REPORT.due("possible", used.possible(t, order), fresh.possible(0, order));
        REPORT.due("fitting", used.fitting(t, log), fresh.fitting(0, 0));
        REPORT.due("fitting", used.fitting(t, log + 1), fresh.fitting(0, 1));
        REPORT.due("likely", used.likely(t, log + 1, 0, 1), fresh.likely(0, 1, 0, 1));
        REPORT.due("next", used.next(t, log + 1), fresh.next(0, 1));
        REPORT.due("drawnAll", used.drawnAll(t, order), fresh.drawnAll(0, order));
        REPORT.due("mend", used.mend(t), fresh.mend(0));
        REPORT.due("unsorted", used.unsorted(t), fresh.unsorted(0));
        REPORT.due("cleared", used.cleared(t), fresh.cleared(0));
        int n = 3 + order % 3;
        REPORT.due("turns", used.turns(n, order, 0, 1), fresh.turns(n, order, 0, 1));
        REPORT.due("classes", used.classes(n, order), fresh.classes(n, order));
        REPORT.due("ladders", used.ladders(n, order), fresh.ladders(n, order));
        REPORT.due("down", used.down(t, order, 0), fresh.down(0, order, 0));
    }

    public static void main(String[] args) {
        testWild();
        testNothingStale();
        REPORT.exit();
    }
}
