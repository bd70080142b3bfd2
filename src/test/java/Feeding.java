/** Texts as the ints that feed takes, filled up with blanks to whole feeds. */
final class Feeding {
    private Feeding() {
    }

    static int[] words(String text) {
        int feeds = (text.length() + 19) / 20;
        int[] words = new int[feeds * 5];
        for (int i = 0; i < feeds * 20; i++) {
            int sign = i < text.length() ? text.charAt(i) & 255 : ' ';
            words[i / 4] |= sign << 24 - 8 * (i % 4);
        }
        return words;
    }

    static int read(GalleyStroke it, String text) {
        put(it, text);
        return it.read();
    }

    static void put(GalleyStroke it, String text) {
        int[] words = words(text);
        for (int i = 0; i < words.length; i += 5) {
            it.feed(words[i], words[i + 1], words[i + 2], words[i + 3], words[i + 4]);
        }
        it.back(words.length * 4 - text.length());
    }
}
