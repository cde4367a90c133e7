import java.nio.charset.StandardCharsets;

/** Brings texts to the tape of an object, which takes twenty bytes at once. */
final class Texts {
    private Texts() {
    }

    static void feed(LadderLots lots, String text) {
        byte[] bytes = text.getBytes(StandardCharsets.ISO_8859_1);
        for (int from = 0; from < bytes.length; from += 20) {
            int[] words = new int[5];
            for (int i = 0; i < 20; i++) {
                int sign = from + i < bytes.length ? bytes[from + i] & 255 : ' ';
                words[i / 4] = words[i / 4] << 8 | sign;
            }
            lots.feed(words[0], words[1], words[2], words[3], words[4]);
        }
        lots.back((20 - bytes.length % 20) % 20);
    }

    /** What read() answers to a text. */
    static int read(LadderLots lots, String text) {
        feed(lots, text);
        return lots.read();
    }

    /** A new object to which these texts, which are right, were told. */
    static LadderLots with(String... texts) {
        LadderLots lots = new LadderLots();
        for (String text : texts) {
            int fault = read(lots, text);
            if (fault != 0) {
                throw new IllegalStateException("fault " + fault + " of " + text);
            }
        }
        return lots;
    }

    /** The kinds and legs of a ladder's elements. */
    static String elements(LadderLots lots, int t) {
        StringBuilder told = new StringBuilder();
        int many = lots.ladder(t, 1);
        for (int i = 0; i < many; i++) {
            told.append("rgbm".charAt(lots.element(t, i, 1))).append(lots.element(t, i, 0));
        }
        return told.toString();
    }

    static String times(String text, int times) {
        StringBuilder all = new StringBuilder();
        for (int i = 0; i < times; i++) {
            all.append(text);
        }
        return all.toString();
    }
}
