import java.nio.charset.StandardCharsets;

/** Brings texts to the tape of an object, which takes twenty bytes at once. */
final class Texts {
    private Texts() {
    }

    static void feed(LadderLots lots, String text) {
        byte[] bytes = text.getBytes(StandardCharsets.ISO_8859_1);
        for (int from = 0; from < bytes.length; from += 20) {
            int[] words = new int[5];
            for (int i = 0; i < 20; i++) {
                int sign = from + i < bytes.length ? bytes[from + i] & 255 : ' ';
                words[i / 4] = words[i / 4] << 8 | sign;
            }
            lots.feed(words[0], words[1], words[2], words[3], words[4]);
        }
        lots.back((20 - bytes.length % 20) % 20);
    }

    /** What read() answers to a text. */
    static int read(LadderLots lots, String text) {
        feed(lots, text);
        return lots.read();
    }

    static String times(String text, int times) {
        StringBuilder all = new StringBuilder();
        for (int i = 0; i < times; i++) {
            all.append(text);
        }
        return all.toString();
    }
}
