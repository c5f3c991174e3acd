/** Promises 22 to 26: pages, offcuts, fold, told, frames. */
public final class ShopTest {
    private static final Bench BENCH = new Bench("ShopTest");

    public static void main(String[] args) {
        pages();
        pagesInEveryOrder();
        wrongPages();
        offcuts();
        wrongOffcuts();
        fold();
        told();
        wrongTold();
        frames();
        wrongFrames();
        BENCH.end();
    }

    private static void duePages(int row, int any, int... sizes) {
        MarginAlbum album = new MarginAlbum();
        String call = "pages " + java.util.Arrays.toString(sizes);
        Bench.feed(album, sizes);
        BENCH.due(call + " in the row", album.pages(sizes.length / 2, 0), row);
        BENCH.due("empty then", album.count(3), 0);
        Bench.feed(album, sizes);
        BENCH.due(call + " in any order", album.pages(sizes.length / 2, 1), any);
        BENCH.due("empty then", album.count(3), 0);
    }

    private static void pages() {
        duePages(1, 1, 16, 12);
        duePages(2, 2, 16, 12, 1, 1);
        duePages(1, 1, 8, 12, 8, 12);
        duePages(2, 2, 9, 7, 9, 6);
        duePages(1, 1, 9, 6, 9, 6);
        // the strip grows while it is the last one, if the page has room from its top down
        duePages(1, 1, 8, 2, 8, 12);
        duePages(2, 2, 16, 1, 8, 2, 8, 12);
        duePages(2, 1, 8, 6, 9, 6, 8, 6);
        duePages(1, 1, 15, 4, 1, 12);
        duePages(2, 2, 16, 4, 1, 8, 15, 9, 15, 2, 1, 1);
        duePages(2, 1, 8, 6, 16, 2, 8, 6, 16, 2, 16, 2);
        duePages(6, 6, 16, 12, 16, 12, 16, 12, 16, 12, 16, 12, 16, 12);
        duePages(3, 2, 16, 7, 16, 8, 16, 5, 16, 4);
        duePages(2, 2, 10, 12, 6, 12, 1, 1);
    }

    /** However the cuts are told, the few orders that need fewest pages are found. */
    private static void pagesInEveryOrder() {
        dueInEveryOrder(1, new int[] {1, 7, 6, 1, 10, 6}, 0);
        dueInEveryOrder(1, new int[] {7, 1, 2, 8, 9, 9}, 0);
        dueInEveryOrder(2, new int[] {13, 12, 5, 1, 11, 6, 4, 10}, 0);
        dueInEveryOrder(2, new int[] {7, 4, 9, 11, 13, 9, 3, 3, 3, 8}, 0);
        dueInEveryOrder(2, new int[] {5, 3, 9, 6, 11, 10, 3, 2, 2, 1, 6, 12}, 0);
    }

    private static void dueInEveryOrder(int fewest, int[] sizes, int placed) {
        if (2 * placed == sizes.length) {
            MarginAlbum album = new MarginAlbum();
            Bench.feed(album, sizes);
            BENCH.due("fewest pages of " + java.util.Arrays.toString(sizes), album.pages(placed, 1), fewest);
        }
        for (int i = placed; 2 * i < sizes.length; i++) {
            int[] next = sizes.clone();
            System.arraycopy(sizes, 2 * placed, next, 2 * i, 2);
            System.arraycopy(sizes, 2 * i, next, 2 * placed, 2);
            dueInEveryOrder(fewest, next, placed + 1);
        }
    }

    private static void wrongPages() {
        int[][] wrong = {{0, 1}, {1, 0}, {17, 1}, {1, 13}, {1, 1, 1, 1, 1, 255}};
        for (int[] sizes : wrong) {
            duePages(-2, -2, sizes);
        }
        MarginAlbum album = new MarginAlbum();
        album.feed(0x01010101, 0x01010101, 0x01010101, 0, 0);
        int[][] calls = {{0, 0}, {7, 0}, {-1, 0}, {1, 2}, {1, -1}, {Integer.MAX_VALUE, 0}, {Integer.MIN_VALUE, 1},
            {1 << 30, 0}, {1 << 31, 0}};
        for (int[] call : calls) {
            BENCH.due("pages " + call[0] + " " + call[1], album.pages(call[0], call[1]), -1);
        }
        BENCH.due("the tape stays", album.count(3), 20);
        BENCH.due("six", album.pages(6, 0), 1);
        BENCH.due("of an empty tape", album.pages(1, 0), -1);
        for (int n = 1; n <= 6; n++) {
            album.feed(0x10101010 & 0x0c0c0c0c | 0x01010101, 0x01010101, 0x01010101, 0, 0);
            BENCH.due("of 20 bytes " + n, album.pages(n, 0), 1);
        }
    }

    private static void dueOffcuts(int length, int many, int bits, int... lengths) {
        MarginAlbum album = new MarginAlbum();
        String call = "offcuts " + length + " of " + java.util.Arrays.toString(lengths);
        Bench.feed(album, lengths);
        BENCH.due(call + ": how many", album.offcuts(lengths.length, length, 0), many);
        BENCH.due("empty then", album.count(3), 0);
        Bench.feed(album, lengths);
        BENCH.due(call + ": which", album.offcuts(lengths.length, length, 1), bits);
    }

    private static void offcuts() {
        dueOffcuts(5, 1, 1, 5);
        dueOffcuts(60, 1, 2, 1, 60);
        dueOffcuts(12, 2, 1 + 4, 7, 4, 5, 1);
        dueOffcuts(12, 2, 3, 5, 7, 7, 5);
        dueOffcuts(10, 1, 128, 1, 2, 3, 4, 5, 6, 7, 10);
        dueOffcuts(240, 4, 15, 60, 60, 60, 60, 60, 60, 60, 60);
        dueOffcuts(36, 8, 255, 1, 2, 3, 4, 5, 6, 7, 8);
        dueOffcuts(9, -2, -2, 5, 5, 5);
        dueOffcuts(240, -2, -2, 60, 60, 60, 59);
        dueOffcuts(1, -2, -2, 2);
        dueOffcuts(1, -3, -3, 2, 0);
        dueOffcuts(2, -3, -3, 2, 61);
        dueOffcuts(2, -3, -3, 255, 2);
    }

    private static void wrongOffcuts() {
        MarginAlbum album = new MarginAlbum();
        album.feed(0x05000000, 0, 0, 0, 0);
        int[][] calls = {{0, 5, 0}, {9, 5, 0}, {-1, 5, 0}, {1, 0, 0}, {1, 241, 0}, {1, 5, 2}, {1, 5, -1},
            {Integer.MAX_VALUE, 5, 0}, {1, Integer.MIN_VALUE, 0}};
        for (int[] call : calls) {
            BENCH.due("offcuts " + java.util.Arrays.toString(call), album.offcuts(call[0], call[1], call[2]), -1);
        }
        BENCH.due("the tape stays", album.count(3), 20);
        BENCH.due("the first byte only", album.offcuts(1, 5, 1), 1);
        BENCH.due("of an empty tape", album.offcuts(1, 5, 1), -1);
    }

    private static void fold() {
        MarginAlbum album = new MarginAlbum();
        int[] due = {-1, 1, 0b011, 0b0011011, 0b001001110011011, -1};
        for (int n = 0; n < due.length; n++) {
            BENCH.due("fold " + n, album.fold(n), due[n]);
        }
        BENCH.due("fold -1", album.fold(-1), -1);
        BENCH.due("fold most", album.fold(Integer.MAX_VALUE), -1);
    }

    private static void dueTold(int[] due, int persons, int n, int... bytes) {
        MarginAlbum album = new MarginAlbum();
        for (int what = 0; what < 3; what++) {
            Bench.feed(album, bytes);
            String call = "told " + what + " by " + java.util.Arrays.toString(bytes);
            BENCH.due(call, album.told(n, (bytes.length - 2 * n) / 2, persons, what), due[what]);
            BENCH.due("empty then", album.count(3), 0);
        }
    }

    private static void told() {
        dueTold(new int[] {65535, 0, 0}, 65535, 1, 0, 0);
        dueTold(new int[] {0xfefd, 0, 0}, 65535, 1, 1, 2);
        dueTold(new int[] {0x7ffe, 0, 0}, 65535, 2, 0x80, 0, 0, 1);
        dueTold(new int[] {6, 1, 2}, 7, 1, 0, 1, 1, 2);
        dueTold(new int[] {6, 1, 4}, 7, 1, 0, 1, 0, 2, 1, 2);
        dueTold(new int[] {0xffff, 1, 8}, 65535, 1, 0, 0, 3, 1, 2, 3, 3, 15);
        dueTold(new int[] {0xffff, 2, 1 + 2}, 65535, 1, 0, 0, 0, 1, 1, 2, 2, 0);
        dueTold(new int[] {0xffff, 1, 32}, 65535, 1, 0, 0, 5, 5);
        dueTold(new int[] {4, -2, -2}, 4, 1, 0, 0, 0, 1);
        dueTold(new int[] {0, -2, -2}, 0, 1, 0, 0, 0, 1);
        dueTold(new int[] {0, 0, 0}, 0, 1, 0, 0);
        dueTold(new int[] {-3, -3, -3}, 65535, 1, 0, 0, 0, 16);
        dueTold(new int[] {-3, -3, -3}, 0, 1, 0, 0, 255, 1, 0, 1);
        dueTold(new int[] {0xfffe, 10, 0x07fe}, 65535, 12,
                0, 1, 0, 1, 0, 1, 0, 1, 0, 1, 0, 1, 0, 1, 0, 1, 0, 1, 0, 1, 0, 1, 0, 1,
                0, 1, 0, 2, 0, 3, 0, 4, 5, 0, 6, 0, 7, 0, 8, 0, 9, 0, 10, 10);
    }

    private static void wrongTold() {
        MarginAlbum album = new MarginAlbum();
        album.feed(0, 0, 0, 0, 0);
        int[][] calls = {{0, 0, 1, 0}, {13, 0, 1, 0}, {1, -1, 1, 0}, {1, 11, 1, 0}, {1, 0, -1, 0}, {1, 0, 65536, 0},
            {1, 0, 1, 3}, {1, 0, 1, -1}, {1, 10, 1, 0}, {6, 5, 1, 0}, {Integer.MAX_VALUE, 0, 1, 0},
            {1, Integer.MIN_VALUE, 1, 0}, {1, Integer.MAX_VALUE, 1, 0}};
        for (int[] call : calls) {
            BENCH.due("told " + java.util.Arrays.toString(call),
                    album.told(call[0], call[1], call[2], call[3]), -1);
        }
        BENCH.due("the tape stays", album.count(3), 20);
        BENCH.due("just so many", album.told(5, 5, 1, 2), 1);
        BENCH.due("of an empty tape", album.told(1, 0, 1, 0), -1);
        Bench.feed(album, new int[60]);
        BENCH.due("11 twos", album.told(1, 11, 1, 0), -1);
        BENCH.due("13 cuts", album.told(13, 0, 1, 0), -1);
        BENCH.due("12 cuts, 10 twos", album.told(12, 10, 1, 1), 1);
    }

    private static void dueFrames(int straight, int turned, int... sizes) {
        MarginAlbum album = new MarginAlbum();
        String call = "frames " + java.util.Arrays.toString(sizes);
        Bench.feed(album, sizes);
        BENCH.due(call, album.frames(sizes.length / 2, false), straight);
        BENCH.due("empty then", album.count(3), 0);
        Bench.feed(album, sizes);
        BENCH.due(call + " turned", album.frames(sizes.length / 2, true), turned);
        BENCH.due("empty then", album.count(3), 0);
    }

    private static void frames() {
        dueFrames(1, 1, 1, 1);
        dueFrames(1, 1, 255, 255, 255, 255);
        dueFrames(2, 2, 255, 255, 254, 254);
        dueFrames(1, 1, 5, 5, 5, 6, 4, 6);
        dueFrames(1, 2, 3, 9, 10, 4);
        dueFrames(2, 3, 3, 9, 10, 4, 2, 2);
        dueFrames(3, 3, 9, 9, 1, 1, 5, 5);
        dueFrames(10, 10, 1, 1, 3, 3, 2, 2, 5, 5, 4, 4, 7, 7, 6, 6, 9, 9, 8, 8, 10, 10);
        dueFrames(10, 10, 10, 10, 9, 9, 8, 8, 7, 7, 6, 6, 5, 5, 4, 4, 3, 3, 2, 2, 1, 1);
        dueFrames(3, 4, 20, 3, 4, 21, 22, 5, 19, 2);
    }

    private static void wrongFrames() {
        dueFrames(-2, -2, 0, 1);
        dueFrames(-2, -2, 1, 1, 1, 0);
        MarginAlbum album = new MarginAlbum();
        album.feed(0x01020304, 0, 0, 0, 0);
        for (int n : new int[] {0, 11, -1, Integer.MAX_VALUE, Integer.MIN_VALUE, 1 << 30}) {
            BENCH.due("frames " + n, album.frames(n, true), -1);
        }
        BENCH.due("the tape stays", album.count(3), 20);
        BENCH.due("the first bytes only", album.frames(2, false), 2);
        BENCH.due("of an empty tape", album.frames(1, false), -1);
        int[] same = new int[40];
        java.util.Arrays.fill(same, 7);
        Bench.feed(album, same);
        BENCH.due("11 frames", album.frames(11, false), -1);
        BENCH.due("10 frames", album.frames(10, false), 1);
    }
}
