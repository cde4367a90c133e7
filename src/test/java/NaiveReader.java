import java.util.ArrayList;
import java.util.Collections;
import java.util.HashMap;
import java.util.List;
import java.util.Map;
import java.util.Set;
import java.util.regex.Matcher;
import java.util.regex.Pattern;

/** Reads a text by the document's rule, a method for each thing that can be told. */
final class NaiveReader {
    private static final Set<String> WORDS = Set.of("legs", "part", "rung", "gate", "back",
            "maybe", "use", "upside", "turned", "times");
    private static final Pattern TOKEN =
            Pattern.compile("[\\t\\n\\r ]*(?:([a-z]+)|([0-9]+)|([;{}])|(.)|$)", Pattern.DOTALL);
    /** Far more than any ladder may have; so long rows are held no longer. */
    private static final int ENOUGH = 3000;

    private static final class Fault extends RuntimeException {
        private static final long serialVersionUID = 1;
        final int number;
        final int place;

        Fault(int number, int place) {
            this.number = number;
            this.place = place;
        }
    }

    int fault;
    int place = -1;
    Naive.Ladder ladder;

    private final String text;
    private final Matcher matcher;
    private final Map<String, List<Naive.Element>> parts = new HashMap<>();
    private final List<int[]> later = new ArrayList<>();
    private String token;
    private int tokenPlace;
    private int behind;
    private int taken;
    private int depth;
    private int legs;

    NaiveReader(String text) {
        this.text = text;
        matcher = TOKEN.matcher(text);
        try {
            look();
            readText();
        } catch (Fault first) {
            fault = first.number;
            place = first.place;
            return;
        }
        for (int[] found : later) {
            if (fault == 0 || found[1] < place || found[1] == place && found[0] < fault) {
                fault = found[0];
                place = found[1];
            }
        }
    }

    private void look() {
        matcher.find(behind);
        behind = matcher.end();
        tokenPlace = text.length();
        token = "end";
        for (int group = 1; group <= 4; group++) {
            if (matcher.group(group) != null) {
                token = matcher.group(group);
                tokenPlace = matcher.start(group);
                int most = group == 1 ? 8 : group == 2 ? 4 : group == 3 ? 1 : 0;
                if (token.length() > most) {
                    token = "?";
                }
            }
        }
        if (tokenPlace < text.length() && token.equals("end")) {
            token = "end ";
        }
    }

    private boolean isInt() {
        return Character.isDigit(token.charAt(0));
    }

    private boolean isName() {
        return Character.isLowerCase(token.charAt(0)) && !WORDS.contains(token)
                && !token.equals("end");
    }

    private String take(boolean goesOn) {
        if (!goesOn) {
            throw new Fault(1, tokenPlace);
        }
        taken++;
        if (taken > 400) {
            throw new Fault(2, tokenPlace);
        }
        String took = token.trim();
        look();
        return took;
    }

    private void take(String due) {
        take(token.equals(due));
    }

    private int takeInt() {
        return Integer.parseInt(take(isInt()));
    }

    private void open() {
        int here = tokenPlace;
        if (token.equals("{") && depth == 4) {
            throw new Fault(2, here);
        }
        take("{");
        depth++;
    }

    private void close() {
        take("}");
        depth--;
    }

    private void readText() {
        take("legs");
        int here = tokenPlace;
        legs = takeInt();
        if (legs < 2 || legs > 7) {
            later.add(new int[] {5, here});
            legs = 7;
        }
        take(";");
        List<Naive.Element> all = new ArrayList<>();
        int partsTold = 0;
        while (!token.equals("end")) {
            int start = tokenPlace;
            if (token.equals("part")) {
                partsTold++;
                if (partsTold > 8) {
                    throw new Fault(2, start);
                }
                readPart();
            } else {
                all.addAll(readTell());
                dueNotLong(all, start);
            }
        }
        ladder = new Naive.Ladder(legs, all);
    }

    private void dueNotLong(List<Naive.Element> elements, int where) {
        if (elements.size() > 200 || new Naive.Ladder(legs, elements).maybes() > 20) {
            later.add(new int[] {6, where});
        }
    }

    private void readPart() {
        take("part");
        int here = tokenPlace;
        String name = take(isName());
        if (parts.containsKey(name)) {
            later.add(new int[] {3, here});
        }
        open();
        List<Naive.Element> elements = readTells();
        close();
        dueNotLong(elements, here);
        parts.put(name, elements);
    }

    private List<Naive.Element> readTells() {
        List<Naive.Element> elements = new ArrayList<>();
        while (!token.equals("}")) {
            List<Naive.Element> more = readTell();
            if (elements.size() < ENOUGH) {
                elements.addAll(more);
            }
        }
        return elements;
    }

    private List<Naive.Element> readTell() {
        String word = take(Set.of("rung", "gate", "back", "maybe", "use", "times")
                .contains(token));
        switch (word) {
            case "use":
                return readUse();
            case "times":
                return readTimes();
            case "maybe":
                return List.of(readMaybe());
            default:
                int kind = List.of("rung", "gate", "back").indexOf(word);
                int leg = readLeg();
                take(";");
                return List.of(new Naive.Element(kind, leg, 0, 0));
        }
    }

    private int readLeg() {
        int here = tokenPlace;
        int leg = takeInt();
        if (leg > legs - 2) {
            later.add(new int[] {5, here});
        }
        return leg;
    }

    private Naive.Element readMaybe() {
        int leg = readLeg();
        int placeOfA = tokenPlace;
        int a = takeInt();
        int placeOfB = tokenPlace;
        int b = takeInt();
        take(";");
        if (a > b) {
            later.add(new int[] {5, placeOfA});
        }
        if (b == 0 || b > 4) {
            later.add(new int[] {5, placeOfB});
        }
        return new Naive.Element(Naive.MAYBE, leg, a, b);
    }

    private List<Naive.Element> readUse() {
        int here = tokenPlace;
        String name = take(isName());
        boolean upside = token.equals("upside");
        if (upside) {
            take("upside");
        }
        boolean turned = token.equals("turned");
        if (turned) {
            take("turned");
        }
        take(";");
        if (!parts.containsKey(name)) {
            later.add(new int[] {4, here});
            return List.of();
        }
        List<Naive.Element> brought = new ArrayList<>();
        for (Naive.Element element : parts.get(name)) {
            int kind = element.kind();
            int other = kind == Naive.GATE ? Naive.BACK : kind == Naive.BACK ? Naive.GATE : kind;
            brought.add(turned ? new Naive.Element(other, legs - 2 - element.leg(),
                    element.a(), element.b()) : element);
        }
        if (upside) {
            Collections.reverse(brought);
        }
        return brought;
    }

    private List<Naive.Element> readTimes() {
        int here = tokenPlace;
        int times = takeInt();
        if (times > 20) {
            later.add(new int[] {5, here});
        }
        open();
        List<Naive.Element> once = readTells();
        close();
        List<Naive.Element> all = new ArrayList<>();
        for (int i = 0; i < times && all.size() < ENOUGH; i++) {
            all.addAll(once);
        }
        return all;
    }
}
