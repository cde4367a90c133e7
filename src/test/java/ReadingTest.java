import java.util.Random;

/** Texts, right ones and faulty ones, beside a plain reader. */
public final class ReadingTest {
    private static final Report REPORT = new Report();
    private static final Random RANDOM = new Random(7);
    private static final String[] TOKENS = {"legs", "rung", "gate", "back", "maybe", "use",
        "upside", "turned", "times", "part", ";", "{", "}", "a", "b", "0", "1", "2", "3", "21",
        "12345", "abcdefghi", "A", "-", "\u00e9", "\0", "end", " ", "\n"};

    private final StringBuilder text = new StringBuilder();
    private int odd;

    private boolean oneIn(int many) {
        return RANDOM.nextInt(many) == 0;
    }

    private void add(String token) {
        text.append(token);
        String[] blanks = {" ", "", "\n", "\t ", "\r\n"};
        boolean needed = Character.isLetterOrDigit(token.charAt(0));
        text.append(needed ? " " : blanks[RANDOM.nextInt(blanks.length)]);
    }

    private String number(int most) {
        boolean wrong = odd > 0 && oneIn(odd);
        return String.valueOf(RANDOM.nextInt(wrong ? 60 : most + 1));
    }

    private void addTell(int n, int open) {
        int kind = RANDOM.nextInt(open < 4 ? 9 : 6);
        if (kind < 3) {
            add(TOKENS[1 + kind]);
            add(number(n - 2));
            add(";");
        } else if (kind < 4) {
            add("maybe");
            add(number(n - 2));
            int b = 1 + RANDOM.nextInt(4);
            add(number(b));
            add(odd > 0 && oneIn(odd) ? number(9) : String.valueOf(b));
            add(";");
        } else if (kind < 6) {
            add("use");
            add(String.valueOf((char) ('a' + RANDOM.nextInt(odd > 0 && oneIn(odd) ? 6 : 2))));
            if (oneIn(2)) {
                add("upside");
            }
            if (oneIn(2)) {
                add("turned");
            }
            add(";");
        } else {
            add("times");
            add(oneIn(3) ? number(20) : number(2));
            add("{");
            addTells(n, open + 1, RANDOM.nextInt(4));
            add("}");
        }
    }

    private void addTells(int n, int open, int many) {
        for (int i = 0; i < many; i++) {
            addTell(n, open);
        }
    }

    private void addPart(int n, String name) {
        add("part");
        add(name);
        add("{");
        addTells(n, 1, 1 + RANDOM.nextInt(3));
        add("}");
    }

    private void addText() {
        int n = odd > 0 && oneIn(odd) ? RANDOM.nextInt(12) : 2 + RANDOM.nextInt(6);
        add("legs");
        add(String.valueOf(n));
        add(";");
        n = n < 2 || n > 7 ? 7 : n;
        addPlainPart(n, "a");
        addPlainPart(n, "b");
        for (int i = RANDOM.nextInt(7); i > 0; i--) {
            if (oneIn(4)) {
                addPart(n, String.valueOf((char) ('c' + RANDOM.nextInt(4))));
            } else {
                addTell(n, 0);
            }
        }
    }

    private void addPlainPart(int n, String name) {
        add("part");
        add(name);
        add("{");
        for (int i = RANDOM.nextInt(4); i > 0; i--) {
            add(TOKENS[1 + RANDOM.nextInt(3)]);
            add(String.valueOf(RANDOM.nextInt(n - 1)));
            add(";");
        }
        add("}");
    }

    private void spoil() {
        int from = RANDOM.nextInt(text.length() + 1);
        int to = Math.min(text.length(), from + RANDOM.nextInt(6));
        String token = TOKENS[RANDOM.nextInt(TOKENS.length)];
        if (oneIn(3)) {
            text.insert(from, token);
        } else if (oneIn(2)) {
            text.delete(from, to);
        } else {
            text.replace(from, to, token);
        }
    }

    private static int[] compare(String text) {
        LadderLots lots = new LadderLots();
        NaiveReader reader = new NaiveReader(text);
        REPORT.due("read of <" + text + ">", Texts.read(lots, text), reader.fault);
        REPORT.due("place in <" + text + ">", lots.place(), reader.place);
        REPORT.due("bytes left of <" + text + ">", lots.count(2), 0);
        REPORT.due("ladders of <" + text + ">", lots.count(0), reader.fault == 0 ? 1 : 0);
        if (reader.fault == 0) {
            Naive.Ladder ladder = reader.ladder;
            REPORT.due("legs of <" + text + ">", lots.ladder(0, 0), ladder.legs());
            REPORT.due("elements of <" + text + ">", lots.ladder(0, 1), ladder.elements().size());
            REPORT.due("maybes of <" + text + ">", lots.ladder(0, 2), ladder.maybes());
            for (int i = 0; i < ladder.elements().size(); i++) {
                Naive.Element element = ladder.elements().get(i);
                boolean maybe = element.kind() == Naive.MAYBE;
                String of = " of element " + i + " of <" + text + ">";
                REPORT.due("leg" + of, lots.element(0, i, 0), element.leg());
                REPORT.due("kind" + of, lots.element(0, i, 1), element.kind());
                REPORT.due("a" + of, lots.element(0, i, 2), maybe ? element.a() : -1);
                REPORT.due("b" + of, lots.element(0, i, 3), maybe ? element.b() : -1);
            }
        }
        return new int[] {reader.fault, text.length()};
    }

    private static void testRandom(String name, int odd, boolean spoilt, int... leastOfFaults) {
        REPORT.begin(name);
        int[] faults = new int[7];
        for (int run = 0; run < 3000; run++) {
            ReadingTest made = new ReadingTest();
            made.odd = odd;
            made.addText();
            for (int i = spoilt ? 1 + RANDOM.nextInt(2) : 0; i > 0; i--) {
                made.spoil();
            }
            if (made.text.length() <= 2000) {
                faults[compare(made.text.toString())[0]]++;
            }
        }
        for (int fault = 0; fault < leastOfFaults.length; fault++) {
            REPORT.holds(leastOfFaults[fault] + " texts with fault " + fault + ", not "
                    + faults[fault], faults[fault] >= leastOfFaults[fault]);
        }
        REPORT.end();
    }

    private static void testRoom() {
        REPORT.begin("texts with too many tokens, parts, or braces");
        int[] faults = new int[7];
        for (int run = 0; run < 300; run++) {
            StringBuilder text = new StringBuilder("legs 3;");
            while (text.length() < 1300 + RANDOM.nextInt(600)) {
                String[] tells = {"rung 1;", "times 1{}", "times 0{rung 0;}", "use a;",
                    "part b{times 1{times 1{}}}", "times 1{times 0{times 0{times 0{times 1{"};
                int chosen = RANDOM.nextInt(run % 3 == 0 ? 400 : 60);
                text.append(tells[chosen < 10 ? chosen % 6 : chosen % 4]);
            }
            faults[compare(text.toString())[0]]++;
        }
        REPORT.holds("many too long", faults[2] > 100);
        REPORT.end();
    }

    public static void main(String[] args) {
        testRandom("right texts", 0, false, 1000);
        testRandom("texts with wrong numbers and names", 12, false, 100, 0, 0, 10, 100, 100, 100);
        testRandom("spoilt texts", 40, true, 100, 1000);
        testRoom();
        REPORT.exit();
    }
}
