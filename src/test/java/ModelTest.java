import java.util.ArrayList;
import java.util.List;
import java.util.Map;
import java.util.Random;

/** The class beside the document's words in their plainest form, over many ladders. */
public final class ModelTest {
    private static final Report REPORT = new Report();
    private static final Random RANDOM = new Random(20261118);

    private static String textOf(Naive.Ladder ladder) {
        StringBuilder text = new StringBuilder("legs" + ladder.legs() + ";");
        String[] words = {"rung", "gate", "back", "maybe"};
        for (Naive.Element element : ladder.elements()) {
            text.append(words[element.kind()]).append(element.leg());
            if (element.kind() == Naive.MAYBE) {
                text.append(' ').append(element.a()).append(' ').append(element.b());
            }
            text.append(';');
        }
        return text.toString();
    }

    private static Naive.Ladder random(int legs, int size, int kinds) {
        List<Naive.Element> elements = new ArrayList<>();
        for (int i = 0; i < size; i++) {
            int kind = kinds >> 4 * RANDOM.nextInt(4) & 15;
            int b = 1 + RANDOM.nextInt(4);
            int a = RANDOM.nextInt(b + 1);
            boolean maybe = kind == Naive.MAYBE;
            elements.add(new Naive.Element(kind, RANDOM.nextInt(legs - 1), maybe ? a : 0,
                    maybe ? b : 0));
        }
        return new Naive.Ladder(legs, elements);
    }

    private static LadderLots with(Naive.Ladder... ladders) {
        LadderLots lots = new LadderLots();
        for (Naive.Ladder ladder : ladders) {
            REPORT.due("read of " + ladder, Texts.read(lots, textOf(ladder)), 0);
        }
        return lots;
    }

    private static void testOrders() {
        REPORT.begin("orders and least ladders, all of 2 to 4 numbers, some of 5");
        for (int n = 2; n <= 5; n++) {
            LadderLots lots = new LadderLots();
            List<int[]> orders = Naive.orders(n);
            for (int order = 0; order < orders.size(); order += n < 5 ? 1 : 7) {
                for (int i = 0; i < n; i++) {
                    REPORT.due("digit", lots.digit(n, order, i), orders.get(order)[i]);
                }
                testLeast(lots, n, order);
            }
            REPORT.due("digit", lots.digit(n, orders.size(), 0), -1);
        }
        REPORT.end();
    }

    private static void testFewWords() {
        REPORT.begin("least ladders of orders of 6 and 7 numbers, where these are few");
        for (int n = 6; n <= 7; n++) {
            LadderLots lots = new LadderLots();
            int most = 0;
            for (int run = 0; run < 400; run++) {
                int order = RANDOM.nextInt(Naive.orders(n).size());
                long many = lots.ladders(n, order);
                if (many <= 800 && many > most) {
                    most = (int) many;
                    testLeast(lots, n, order);
                }
            }
            REPORT.holds("many enough: " + most, most > 300);
        }
        REPORT.end();
    }

    private static void testLeast(LadderLots lots, int n, int order) {
        List<List<Integer>> words = Naive.least(n, order);
        int fewest = Naive.inversions(Naive.orders(n).get(order));
        String of = n + ", " + order;
        REPORT.due("fewest of " + of, lots.fewest(n, order), fewest);
        REPORT.due("ladders of " + of, lots.ladders(n, order), words.size());
        REPORT.due("classes of " + of, lots.classes(n, order), Naive.classes(words));
        for (int rank = 0; rank < words.size(); rank += 1 + words.size() / 50) {
            for (int i = 0; i < fewest; i++) {
                REPORT.due("rung " + i + " of " + rank + " of " + of,
                        lots.rung(n, order, rank, i), words.get(rank).get(i));
            }
            REPORT.due("rung", lots.rung(n, order, rank, fewest), -1);
            List<Naive.Element> rungs = new ArrayList<>();
            for (int leg : words.get(rank)) {
                rungs.add(new Naive.Element(Naive.RUNG, leg, 0, 0));
            }
            LadderLots told = with(new Naive.Ladder(n, rungs));
            REPORT.due("rank of " + words.get(rank), told.rank(0), rank);
            REPORT.due("down of " + words.get(rank), told.down(0, 0, 0), order);
            int other = RANDOM.nextInt(words.size());
            REPORT.due("turns from " + rank + " to " + other + " of " + of,
                    lots.turns(n, order, rank, other),
                    Naive.distance(words.get(rank), words.get(other), 0));
            REPORT.due("moves from " + rank + " to " + other + " of " + of,
                    lots.moves(n, order, rank, other),
                    Naive.distance(words.get(rank), words.get(other), 1));
        }
        REPORT.due("rung", lots.rung(n, order, words.size(), 0), -1);
        REPORT.due("turns", lots.turns(n, order, 0, words.size()), -1);
    }

    private static void testGreatOrders() {
        REPORT.begin("all orders of 6 and 7 numbers, told, and led down");
        for (int n = 6; n <= 7; n++) {
            List<int[]> orders = Naive.orders(n);
            Naive.Ladder ladder = random(n, 30, 0x3210);
            LadderLots lots = with(ladder);
            int there = RANDOM.nextInt(1 << ladder.maybes());
            for (int order = 0; order < orders.size(); order++) {
                int[] row = orders.get(order);
                int i = RANDOM.nextInt(n);
                REPORT.due("digit", lots.digit(n, order, i), row[i]);
                REPORT.due("fewest", lots.fewest(n, order), Naive.inversions(row));
                int[] end = Naive.down(ladder, row, there);
                REPORT.due("down", lots.down(0, order, there), Naive.numberOf(end));
                REPORT.due("ends", lots.ends(0, order, there, i), Naive.placeOf(end, i));
            }
        }
        REPORT.end();
    }

    private static void testWays() {
        REPORT.begin("ways and odds of ladders with maybes");
        for (int run = 0; run < 60; run++) {
            int legs = 2 + run % 6;
            Naive.Ladder ladder = random(legs, 1 + RANDOM.nextInt(14), 0x3230 | 0x10 * (run % 4));
            LadderLots lots = with(ladder);
            int many = Naive.orders(legs).size();
            int order = RANDOM.nextInt(many);
            Map<Integer, Long> ways = Naive.ways(ladder, Naive.orders(legs).get(order));
            REPORT.due("ways", lots.ways(0), ways.values().stream().mapToLong(w -> w).sum());
            REPORT.due("possible", lots.possible(0, order), ways.size());
            REPORT.due("ladder 2", lots.ladder(0, 2), ladder.maybes());
            for (int end = 0; end < many; end += 1 + many / 200) {
                REPORT.due("oddsOf", lots.oddsOf(0, order, end), ways.getOrDefault(end, 0L));
            }
            for (int number = 0; number < legs; number++) {
                for (int leg = 0; leg < legs; leg++) {
                    REPORT.due("odds", lots.odds(0, order, number, leg),
                            onto(ways, legs, number, leg));
                }
            }
        }
        REPORT.end();
    }

    private static long onto(Map<Integer, Long> ways, int legs, int number, int leg) {
        long sum = 0;
        for (Map.Entry<Integer, Long> entry : ways.entrySet()) {
            int[] row = Naive.orders(legs).get(entry.getKey());
            sum += row[leg] == number ? entry.getValue() : 0;
        }
        return sum;
    }

    private static void testLogs() {
        REPORT.begin("logs and voids of two ladders, as known by each number of them");
        for (int run = 0; run < 30; run++) {
            int legs = 2 + run % 6;
            Naive.Ladder one = random(legs, 3 + RANDOM.nextInt(9), 0x3330);
            Naive.Ladder other = random(legs, 3 + RANDOM.nextInt(9), 0x3310);
            LadderLots lots = with(one, other);
            List<int[]> entries = new ArrayList<>();
            for (int i = 0; i < 9; i++) {
                int log = RANDOM.nextInt(9);
                if (RANDOM.nextInt(3) == 0 && log < i && entries.get(log)[0] >= 0) {
                    REPORT.due("annul", lots.annul(log), i);
                    entries.add(new int[] {-1, log, 0});
                } else {
                    int t = RANDOM.nextInt(2);
                    int number = RANDOM.nextInt(legs);
                    int there = RANDOM.nextInt(1 << (t == 0 ? one : other).maybes());
                    int leg = lots.ends(t, 0, there, number);
                    REPORT.due("log", lots.log(t, number, leg), i);
                    entries.add(new int[] {t, number, leg});
                }
            }
            for (int known = 0; known <= 9; known++) {
                testKnown(lots, 0, one, entries.subList(0, known));
                testKnown(lots, 1, other, entries.subList(0, known));
            }
        }
        REPORT.end();
    }

    private static void testKnown(LadderLots lots, int t, Naive.Ladder ladder,
            List<int[]> entries) {
        int legs = ladder.legs();
        Map<Integer, Long> ways = Naive.ways(ladder, Naive.orders(legs).get(0));
        for (int i = 0; i < entries.size(); i++) {
            int[] log = entries.get(i);
            int at = i;
            boolean isVoid = entries.stream().anyMatch(entry -> entry[0] < 0 && entry[1] == at);
            if (log[0] == t && !isVoid) {
                ways.keySet().removeIf(
                        end -> Naive.orders(legs).get(end)[log[2]] != log[1]);
            }
        }
        int known = entries.size();
        long all = ways.values().stream().mapToLong(w -> w).sum();
        REPORT.due("fitting", lots.fitting(t, known), all);
        int best = -1;
        long least = Long.MAX_VALUE;
        for (int number = 0; number < legs; number++) {
            long greatest = 0;
            for (int leg = 0; leg < legs; leg++) {
                long many = onto(ways, legs, number, leg);
                REPORT.due("likely", lots.likely(t, known, number, leg), many);
                greatest = Math.max(greatest, many);
            }
            if (greatest < least) {
                least = greatest;
                best = number;
            }
        }
        REPORT.due("next", lots.next(t, known), best);
    }

    private static void testPlain() {
        REPORT.begin("plain ladders: cleared, rank, rungs drawn in");
        for (int run = 0; run < 80; run++) {
            int legs = 2 + run % 6;
            Naive.Ladder ladder = random(legs, RANDOM.nextInt(run % 2 == 0 ? 6 : 25), 0x0000);
            LadderLots lots = with(ladder);
            List<Integer> left = Naive.cleared(ladder);
            REPORT.due("cleared of " + ladder, lots.cleared(0), left.size());
            for (int i = 0; i < left.size(); i++) {
                REPORT.due("kept " + i + " of " + ladder, lots.kept(0, i), left.get(i));
            }
            REPORT.due("kept", lots.kept(0, left.size()), -1);
            if (ladder.elements().size() < 6 && legs <= 5) {
                testDrawn(lots, ladder);
            }
            if (legs <= 5) {
                for (int order = 0; order < Naive.orders(legs).size(); order++) {
                    REPORT.due("drawnAll of " + ladder + ", " + order, lots.drawnAll(0, order),
                            Naive.drawnAll(ladder, order));
                }
            }
        }
        REPORT.end();
    }

    private static void testDrawn(LadderLots lots, Naive.Ladder ladder) {
        for (int number = 0; number < ladder.legs(); number++) {
            for (int leg = 0; leg < ladder.legs(); leg++) {
                List<Integer> rungs = Naive.drawn(ladder, number, leg);
                String of = " of " + ladder + ", " + number + ", " + leg;
                REPORT.due("drawn" + of, lots.drawn(0, number, leg), rungs.size());
                for (int i = 0; i < rungs.size(); i++) {
                    REPORT.due("drawnAt " + i + of, lots.drawnAt(0, number, leg, i), rungs.get(i));
                }
                REPORT.due("drawnAt" + of, lots.drawnAt(0, number, leg, rungs.size()), -1);
            }
        }
    }

    private static void testGates() {
        REPORT.begin("ladders of gates, backs and rungs: what they sort and what mends them");
        int[] kinds = {0x1111, 0x1112, 0x1110, 0x2110};
        for (int run = 0; run < 90; run++) {
            int legs = 2 + run % 6;
            Naive.Ladder ladder = random(legs, RANDOM.nextInt(25), kinds[run % 4]);
            Naive.Ladder other = random(legs, RANDOM.nextInt(25), kinds[run / 4 % 4]);
            LadderLots lots = with(ladder, other);
            List<Integer> failing = Naive.fails(ladder);
            REPORT.due("unsorted of " + ladder, lots.unsorted(0), Naive.unsorted(ladder));
            REPORT.due("sorts of " + ladder, lots.sorts(0), failing.isEmpty() ? 1 : 0);
            REPORT.due("fails of " + ladder, lots.fails(0), failing.size());
            REPORT.due("firstFail of " + ladder, lots.firstFail(0),
                    failing.isEmpty() ? -3 : failing.get(0));
            REPORT.due("unlike", lots.unlike(0, 1), Naive.unlike(ladder, other));
            for (int i = 0; i < ladder.elements().size(); i += legs < 7 ? 1 : 5) {
                REPORT.due("idle " + i + " of " + ladder, lots.idle(0, i),
                        Naive.isIdle(ladder, i) ? 1 : 0);
                REPORT.due("needed " + i + " of " + ladder, lots.needed(0, i),
                        Naive.isNeeded(ladder, i) ? 1 : 0);
            }
            if (legs <= 5) {
                List<Integer> gates = Naive.mend(ladder);
                REPORT.due("mend of " + ladder, lots.mend(0), gates.size());
                for (int i = 0; i < gates.size(); i++) {
                    REPORT.due("mendAt " + i + " of " + ladder, lots.mendAt(0, i), gates.get(i));
                }
                REPORT.due("mendAt", lots.mendAt(0, gates.size()), -1);
            }
        }
        REPORT.end();
    }

    private static void testNearSorters() {
        REPORT.begin("ladders that sort but for few rows");
        int late = 0;
        for (int run = 0; run < 300; run++) {
            Naive.Ladder ladder = nearSorter(run % 3 == 0 ? 5 : run % 3 == 1 ? 6 : 7);
            LadderLots lots = with(ladder);
            List<Integer> failing = Naive.fails(ladder);
            REPORT.due("fails of " + ladder, lots.fails(0), failing.size());
            REPORT.due("firstFail of " + ladder, lots.firstFail(0),
                    failing.isEmpty() ? -3 : failing.get(0));
            REPORT.due("unsorted of " + ladder, lots.unsorted(0), Naive.unsorted(ladder));
            late += !failing.isEmpty() && failing.get(0) > 64 ? 1 : 0;
        }
        REPORT.holds("some fail first with leg 6, not " + late, late > 5);
        REPORT.end();
    }

    /** Rungs, and behind them gates that sort all rows but for one that is left out. */
    private static Naive.Ladder nearSorter(int legs) {
        List<Naive.Element> elements = new ArrayList<>();
        for (int i = 0; i < 20; i++) {
            elements.add(new Naive.Element(Naive.RUNG, RANDOM.nextInt(legs - 1), 0, 0));
        }
        int leftOut = elements.size() + RANDOM.nextInt(legs * (legs - 1) / 2);
        for (int last = 0; last + 1 < legs; last++) {
            for (int leg = last; leg >= 0; leg--) {
                elements.add(new Naive.Element(Naive.GATE, leg, 0, 0));
            }
        }
        elements.remove(leftOut);
        return new Naive.Ladder(legs, elements);
    }

    private static void testMade() {
        REPORT.begin("ladders turned, joined, by lots, and their layers");
        for (int run = 0; run < 60; run++) {
            int legs = 2 + run % 6;
            Naive.Ladder one = random(legs, RANDOM.nextInt(12), 0x3210);
            Naive.Ladder other = random(legs, RANDOM.nextInt(12), 0x3210);
            LadderLots lots = with(one, other);
            boolean upside = RANDOM.nextBoolean();
            boolean turned = RANDOM.nextBoolean();
            REPORT.due("copy", lots.copy(0, upside, turned), 2);
            dueElements(lots, 2, legs, copied(one, upside, turned));
            REPORT.due("join", lots.join(1, 2), 3);
            List<Naive.Element> both = new ArrayList<>(other.elements());
            both.addAll(copied(one, upside, turned));
            dueElements(lots, 3, legs, both);
            int seed = RANDOM.nextInt();
            int size = RANDOM.nextInt(60);
            REPORT.due("lots", lots.lots(seed, legs, size, turned), 4);
            dueElements(lots, 4, legs, byLots(seed, legs, size, turned));
        }
        REPORT.end();
    }

    private static List<Naive.Element> copied(Naive.Ladder ladder, boolean upside,
            boolean turned) {
        List<Naive.Element> copy = new ArrayList<>();
        for (Naive.Element element : ladder.elements()) {
            int[] kinds = {Naive.RUNG, Naive.BACK, Naive.GATE, Naive.MAYBE};
            Naive.Element made = turned ? new Naive.Element(kinds[element.kind()],
                    ladder.legs() - 2 - element.leg(), element.a(), element.b()) : element;
            copy.add(upside ? 0 : copy.size(), made);
        }
        return copy;
    }

    private static List<Naive.Element> byLots(int seed, int legs, int size, boolean gates) {
        List<Naive.Element> elements = new ArrayList<>();
        for (int i = 0; i < size; i++) {
            int leg = (int) (lot(seed, 2 * i) % (legs - 1));
            boolean gate = gates && lot(seed, 2 * i + 1) % 2 == 1;
            elements.add(new Naive.Element(gate ? Naive.GATE : Naive.RUNG, leg, 0, 0));
        }
        return elements;
    }

    static long lot(int seed, int which) {
        long wrap = 1L << 32;
        long h = seed & wrap - 1;
        for (long it : new long[] {9, which}) {
            h = ((h ^ it) * 1103515245L + 12345) % wrap;
            h = h < 0 ? h + wrap : h;
            h ^= h / 32768;
        }
        return h / 2;
    }

    private static void dueElements(LadderLots lots, int t, int legs,
            List<Naive.Element> elements) {
        Naive.Ladder ladder = new Naive.Ladder(legs, elements);
        REPORT.due("legs", lots.ladder(t, 0), legs);
        REPORT.due("elements", lots.ladder(t, 1), elements.size());
        REPORT.due("maybes", lots.ladder(t, 2), ladder.maybes());
        REPORT.due("plain", lots.ladder(t, 4), ladder.isPlain() ? 1 : 0);
        int deepest = 0;
        for (int i = 0; i < elements.size(); i++) {
            Naive.Element element = elements.get(i);
            boolean maybe = element.kind() == Naive.MAYBE;
            REPORT.due("leg " + i, lots.element(t, i, 0), element.leg());
            REPORT.due("kind " + i, lots.element(t, i, 1), element.kind());
            REPORT.due("a " + i, lots.element(t, i, 2), maybe ? element.a() : -1);
            REPORT.due("b " + i, lots.element(t, i, 3), maybe ? element.b() : -1);
            if (i < 14) {
                int layer = Naive.layer(ladder, i);
                REPORT.due("layer " + i, lots.element(t, i, 4), layer);
                deepest = Math.max(deepest, layer);
            }
        }
        if (elements.size() <= 14) {
            REPORT.due("layers", lots.ladder(t, 3), deepest);
        }
    }

    public static void main(String[] args) {
        testOrders();
        testGreatOrders();
        testFewWords();
        testWays();
        testLogs();
        testPlain();
        testGates();
        testNearSorters();
        testMade();
        REPORT.exit();
    }
}
