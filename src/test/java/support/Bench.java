/** Compares answers with those that are due, and feeds texts and bytes to an album's tape. */
final class Bench {
    private final String name;
    private int wrong;
    private int asked;

    Bench(String name) {
        this.name = name;
    }

    void due(String call, long got, long want) {
        asked++;
        if (got != want) {
            wrong++;
            System.out.println(name + ": " + call + " answered " + got + ", due is " + want);
        }
    }

    void due(String call, boolean got, boolean want) {
        due(call, got ? 1 : 0, want ? 1 : 0);
    }

    void end() {
        System.out.println(name + ": " + (asked - wrong) + " of " + asked + " answers are as due");
        if (wrong != 0) {
            System.exit(1);
        }
    }

    static int[] bytesOf(String text) {
        int[] bytes = new int[text.length()];
        for (int i = 0; i < bytes.length; i++) {
            bytes[i] = text.charAt(i);
        }
        return bytes;
    }

    /** Feeds the bytes, and zeros behind them to fill up twenty; answers what the last feed did. */
    static int feed(MarginAlbum album, int... bytes) {
        int got = 0;
        for (int i = 0; i < bytes.length; i += 20) {
            int[] words = words(bytes, i);
            got = album.feed(words[0], words[1], words[2], words[3], words[4]);
        }
        return got;
    }

    static int[] words(int[] bytes, int from) {
        int[] words = new int[5];
        for (int k = 0; k < 20; k++) {
            int value = from + k < bytes.length ? bytes[from + k] & 255 : 0;
            words[k / 4] |= value << 24 - k % 4 * 8;
        }
        return words;
    }

    static int print(MarginAlbum album, String text) {
        feed(album, bytesOf(text));
        return album.print(text.length());
    }

    static int edits(MarginAlbum album, String text) {
        feed(album, bytesOf(text));
        return album.edits(text.length());
    }

    static int law(MarginAlbum album, String text) {
        feed(album, bytesOf(text));
        return album.law(text.length());
    }

    static MarginAlbum printed(String text) {
        MarginAlbum album = new MarginAlbum();
        if (print(album, text) < 1) {
            throw new IllegalStateException("no such print: " + text);
        }
        return album;
    }
}
