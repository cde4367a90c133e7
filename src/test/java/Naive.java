import java.util.ArrayDeque;
import java.util.ArrayList;
import java.util.Arrays;
import java.util.HashMap;
import java.util.HashSet;
import java.util.List;
import java.util.Map;
import java.util.Set;
import java.util.TreeMap;

/** The document's words in their plainest form, slow, over ladders as lists of elements. */
final class Naive {
    static final int RUNG = 0;
    static final int GATE = 1;
    static final int BACK = 2;
    static final int MAYBE = 3;

    /** An element: its kind, leg, and a and b of a maybe. */
    record Element(int kind, int leg, int a, int b) {
    }

    record Ladder(int legs, List<Element> elements) {
        int maybes() {
            int many = 0;
            for (Element element : elements) {
                many += element.kind == MAYBE ? 1 : 0;
            }
            return many;
        }

        boolean isPlain() {
            return elements.stream().allMatch(element -> element.kind == RUNG);
        }
    }

    private static final Map<Integer, List<int[]>> ORDERS = new HashMap<>();

    private Naive() {
    }

    // ---- Orders ----

    static List<int[]> orders(int n) {
        List<int[]> known = ORDERS.get(n);
        if (known == null) {
            known = new ArrayList<>();
            addOrders(known, new int[n], 0);
            ORDERS.put(n, known);
        }
        return known;
    }

    private static void addOrders(List<int[]> all, int[] row, int filled) {
        if (filled == row.length) {
            all.add(row.clone());
            return;
        }
        for (int number = 0; number < row.length; number++) {
            boolean used = false;
            for (int i = 0; i < filled; i++) {
                used |= row[i] == number;
            }
            if (!used) {
                row[filled] = number;
                addOrders(all, row, filled + 1);
            }
        }
    }

    static int numberOf(int[] row) {
        int rank = 0;
        for (int i = 0; i < row.length; i++) {
            int lesser = 0;
            for (int j = i + 1; j < row.length; j++) {
                lesser += row[j] < row[i] ? 1 : 0;
            }
            rank = rank * (row.length - i) + lesser;
        }
        return rank;
    }

    // ---- Going down ----

    static int[] down(Ladder ladder, int[] order, int there) {
        int[] row = order.clone();
        int maybe = 0;
        for (Element element : ladder.elements) {
            boolean passes = true;
            if (element.kind == MAYBE) {
                passes = (there >> maybe & 1) == 1;
                maybe++;
            }
            if (passes) {
                change(row, element);
            }
        }
        return row;
    }

    /** Whether the two changed places. */
    static boolean change(int[] row, Element element) {
        int left = row[element.leg];
        int right = row[element.leg + 1];
        boolean changes = element.kind == GATE ? left > right
                : element.kind == BACK ? left < right : true;
        if (changes) {
            row[element.leg] = right;
            row[element.leg + 1] = left;
        }
        return changes;
    }

    static int layer(Ladder ladder, int i) {
        int greatest = 0;
        int leg = ladder.elements.get(i).leg;
        for (int above = 0; above < i; above++) {
            if (Math.abs(ladder.elements.get(above).leg - leg) <= 1) {
                greatest = Math.max(greatest, layer(ladder, above));
            }
        }
        return greatest + 1;
    }

    // ---- Least ladders ----

    /** All of them in their ranks; each is a list of legs. */
    static List<List<Integer>> least(int n, int order) {
        int[] target = orders(n).get(order);
        List<List<Integer>> found = new ArrayList<>();
        int[] row = new int[n];
        for (int i = 0; i < n; i++) {
            row[i] = i;
        }
        addLeast(found, row, target, new ArrayList<>(), inversions(target));
        return found;
    }

    static int inversions(int[] row) {
        int many = 0;
        for (int i = 0; i < row.length; i++) {
            for (int j = i + 1; j < row.length; j++) {
                many += row[i] > row[j] ? 1 : 0;
            }
        }
        return many;
    }

    private static void addLeast(List<List<Integer>> found, int[] row, int[] target,
            List<Integer> word, int left) {
        if (left == 0) {
            if (Arrays.equals(row, target)) {
                found.add(new ArrayList<>(word));
            }
            return;
        }
        for (int leg = 0; leg + 1 < row.length; leg++) {
            // two that have changed never change back in a least ladder
            boolean never = row[leg] > row[leg + 1]
                    || placeOf(target, row[leg]) < placeOf(target, row[leg + 1]);
            if (!never) {
                int[] next = row.clone();
                change(next, new Element(RUNG, leg, 0, 0));
                word.add(leg);
                addLeast(found, next, target, word, left - 1);
                word.remove(word.size() - 1);
            }
        }
    }

    static int placeOf(int[] row, int number) {
        for (int i = 0; i < row.length; i++) {
            if (row[i] == number) {
                return i;
            }
        }
        throw new IllegalArgumentException("no " + number);
    }

    static List<Integer> cleared(Ladder ladder) {
        List<Integer> left = new ArrayList<>();
        for (int i = 0; i < ladder.elements.size(); i++) {
            left.add(i);
        }
        while (true) {
            int[] two = firstUndone(ladder, left);
            if (two == null) {
                return left;
            }
            left.remove(Integer.valueOf(two[0]));
            left.remove(Integer.valueOf(two[1]));
        }
    }

    private static int[] firstUndone(Ladder ladder, List<Integer> left) {
        int[] row = new int[ladder.legs];
        for (int i = 0; i < row.length; i++) {
            row[i] = i;
        }
        Map<Set<Integer>, Integer> met = new HashMap<>();
        for (int i : left) {
            Element rung = ladder.elements.get(i);
            Set<Integer> pair = Set.of(row[rung.leg], row[rung.leg + 1]);
            if (met.containsKey(pair)) {
                return new int[] {met.get(pair), i};
            }
            met.put(pair, i);
            change(row, rung);
        }
        return null;
    }

    /** The fewest steps between two words, where slides cost 0 or 1. */
    static int distance(List<Integer> from, List<Integer> to, int slideCost) {
        Map<List<Integer>, Integer> costs = new HashMap<>();
        ArrayDeque<List<Integer>> line = new ArrayDeque<>();
        costs.put(from, 0);
        line.add(from);
        while (!line.isEmpty()) {
            List<Integer> word = line.pollFirst();
            int cost = costs.get(word);
            for (int i = 0; i + 1 < word.size(); i++) {
                if (Math.abs(word.get(i) - word.get(i + 1)) > 1) {
                    List<Integer> next = new ArrayList<>(word);
                    next.set(i, word.get(i + 1));
                    next.set(i + 1, word.get(i));
                    better(costs, line, next, cost + slideCost);
                }
                if (i + 2 < word.size() && word.get(i).equals(word.get(i + 2))
                        && Math.abs(word.get(i) - word.get(i + 1)) == 1) {
                    List<Integer> next = new ArrayList<>(word);
                    next.set(i, word.get(i + 1));
                    next.set(i + 1, word.get(i));
                    next.set(i + 2, word.get(i + 1));
                    better(costs, line, next, cost + 1);
                }
            }
        }
        return costs.get(to);
    }

    private static void better(Map<List<Integer>, Integer> costs,
            ArrayDeque<List<Integer>> line, List<Integer> word, int cost) {
        Integer old = costs.get(word);
        if (old == null || cost < old) {
            costs.put(word, cost);
            line.addLast(word);
        }
    }

    static int classes(List<List<Integer>> words) {
        Set<List<Integer>> seen = new HashSet<>();
        int many = 0;
        for (List<Integer> first : words) {
            if (seen.add(first)) {
                many++;
                ArrayDeque<List<Integer>> line = new ArrayDeque<>(List.of(first));
                while (!line.isEmpty()) {
                    List<Integer> word = line.poll();
                    for (int i = 0; i + 1 < word.size(); i++) {
                        if (Math.abs(word.get(i) - word.get(i + 1)) > 1) {
                            List<Integer> next = new ArrayList<>(word);
                            next.set(i, word.get(i + 1));
                            next.set(i + 1, word.get(i));
                            if (seen.add(next)) {
                                line.add(next);
                            }
                        }
                    }
                }
            }
        }
        return many;
    }

    // ---- Ways ----

    /** The ways of each end of an order, over all sets of maybes. */
    static Map<Integer, Long> ways(Ladder ladder, int[] order) {
        Map<Integer, Long> ways = new TreeMap<>();
        for (int there = 0; there < 1 << ladder.maybes(); there++) {
            long many = 1;
            int maybe = 0;
            for (Element element : ladder.elements) {
                if (element.kind == MAYBE) {
                    many *= (there >> maybe & 1) == 1 ? element.a : element.b - element.a;
                    maybe++;
                }
            }
            if (many > 0) {
                ways.merge(numberOf(down(ladder, order, there)), many, Long::sum);
            }
        }
        return ways;
    }

    // ---- Drawn in ----

    /** The first of the fewest rungs, each as 10 * gap + leg, by which a number ends on a leg. */
    static List<Integer> drawn(Ladder ladder, int number, int leg) {
        for (int many = 0;; many++) {
            List<Integer> found = new ArrayList<>();
            if (drawsTo(ladder, 0, number, leg, many, found)) {
                return found;
            }
        }
    }

    /** Tries every next rung, the lesser gap first, then the lesser leg. */
    private static boolean drawsTo(Ladder ladder, int gap, int at, int leg, int many,
            List<Integer> found) {
        int here = at;
        for (int next = gap; next <= ladder.elements.size(); next++) {
            for (int put = 0; many > 0 && put + 1 < ladder.legs; put++) {
                int moved = here == put ? put + 1 : here == put + 1 ? put : here;
                found.add(10 * next + put);
                if (drawsTo(ladder, next, moved, leg, many - 1, found)) {
                    return true;
                }
                found.remove(found.size() - 1);
            }
            if (next < ladder.elements.size()) {
                int rung = ladder.elements.get(next).leg;
                here = here == rung ? rung + 1 : here == rung + 1 ? rung : here;
            }
        }
        return many == 0 && here == leg;
    }

    static int drawnAll(Ladder ladder, int order) {
        Map<Integer, Integer> costs = new HashMap<>();
        costs.put(0, 0);
        spread(ladder.legs, costs);
        for (Element rung : ladder.elements) {
            Map<Integer, Integer> next = new HashMap<>();
            for (Map.Entry<Integer, Integer> entry : costs.entrySet()) {
                int[] row = orders(ladder.legs).get(entry.getKey()).clone();
                change(row, rung);
                next.put(numberOf(row), entry.getValue());
            }
            costs = next;
            spread(ladder.legs, costs);
        }
        return costs.get(order);
    }

    private static void spread(int n, Map<Integer, Integer> costs) {
        ArrayDeque<Integer> line = new ArrayDeque<>(costs.keySet());
        while (!line.isEmpty()) {
            int order = line.poll();
            for (int leg = 0; leg + 1 < n; leg++) {
                int[] row = orders(n).get(order).clone();
                change(row, new Element(RUNG, leg, 0, 0));
                int other = numberOf(row);
                int cost = costs.get(order) + 1;
                if (!costs.containsKey(other) || costs.get(other) > cost) {
                    costs.put(other, cost);
                    line.add(other);
                }
            }
        }
    }

    // ---- Gates ----

    static boolean isSorted(int[] row) {
        for (int i = 0; i + 1 < row.length; i++) {
            if (row[i] > row[i + 1]) {
                return false;
            }
        }
        return true;
    }

    static int unsorted(Ladder ladder) {
        int many = 0;
        for (int[] order : orders(ladder.legs)) {
            many += isSorted(down(ladder, order, 0)) ? 0 : 1;
        }
        return many;
    }

    static int[] bitRow(int legs, int bits) {
        int[] row = new int[legs];
        for (int leg = 0; leg < legs; leg++) {
            row[leg] = bits >> leg & 1;
        }
        return row;
    }

    static List<Integer> fails(Ladder ladder) {
        List<Integer> failing = new ArrayList<>();
        for (int bits = 0; bits < 1 << ladder.legs; bits++) {
            if (!isSorted(down(ladder, bitRow(ladder.legs, bits), 0))) {
                failing.add(bits);
            }
        }
        return failing;
    }

    static boolean isIdle(Ladder ladder, int i) {
        for (int[] order : orders(ladder.legs)) {
            int[] row = order.clone();
            boolean changed = false;
            for (int at = 0; at <= i; at++) {
                changed = change(row, ladder.elements.get(at));
            }
            if (changed) {
                return false;
            }
        }
        return true;
    }

    static boolean isNeeded(Ladder ladder, int i) {
        List<Element> others = new ArrayList<>(ladder.elements);
        others.remove(i);
        return unsorted(new Ladder(ladder.legs, others)) > 0;
    }

    static List<Integer> mend(Ladder ladder) {
        List<int[]> rows = new ArrayList<>();
        for (int bits = 0; bits < 1 << ladder.legs; bits++) {
            rows.add(down(ladder, bitRow(ladder.legs, bits), 0));
        }
        for (int many = 0;; many++) {
            List<Integer> gates = new ArrayList<>();
            if (mends(ladder.legs, rows, many, gates)) {
                return gates;
            }
        }
    }

    private static boolean mends(int legs, List<int[]> rows, int many, List<Integer> gates) {
        if (many == 0) {
            return rows.stream().allMatch(Naive::isSorted);
        }
        for (int leg = 0; leg + 1 < legs; leg++) {
            List<int[]> next = new ArrayList<>();
            boolean changed = false;
            for (int[] row : rows) {
                int[] copy = row.clone();
                changed |= change(copy, new Element(GATE, leg, 0, 0));
                next.add(copy);
            }
            // a gate that changes nothing is never one of the fewest
            if (changed) {
                gates.add(leg);
                if (mends(legs, next, many - 1, gates)) {
                    return true;
                }
                gates.remove(gates.size() - 1);
            }
        }
        return false;
    }

    static int unlike(Ladder one, Ladder other) {
        int many = 0;
        for (int[] order : orders(one.legs)) {
            many += Arrays.equals(down(one, order, 0), down(other, order, 0)) ? 0 : 1;
        }
        return many;
    }
}
