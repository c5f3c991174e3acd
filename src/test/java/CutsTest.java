/** Promises 13 to 18: without, today, shows, sky, smallest, smallestOf. */
public final class CutsTest {
    private static final Bench BENCH = new Bench("CutsTest");

    public static void main(String[] args) {
        without();
        likeCuts();
        today();
        shows();
        sky();
        smallest();
        smallestOf();
        BENCH.end();
    }

    private static void dueCut(String call, int[] parts, int left, int top, int wide, int high) {
        int[] due = {left, top, wide, high};
        for (int what = 0; what < 4; what++) {
            BENCH.due(call + " " + what, parts[what], due[what]);
        }
    }

    private static int[] withoutParts(MarginAlbum album, int persons) {
        return new int[] {album.without(persons, 0), album.without(persons, 1),
            album.without(persons, 2), album.without(persons, 3)};
    }

    private static int[] smallestParts(MarginAlbum album, int k) {
        return new int[] {album.smallest(k, 0), album.smallest(k, 1), album.smallest(k, 2), album.smallest(k, 3)};
    }

    private static int[] smallestOfParts(MarginAlbum album, int persons) {
        return new int[] {album.smallestOf(persons, 0), album.smallestOf(persons, 1),
            album.smallestOf(persons, 2), album.smallestOf(persons, 3)};
    }

    private static void without() {
        MarginAlbum album = Bench.printed("a5,4:3x3;b0,0:16x1;p15,11:1x1;a9,9:1x1");
        dueCut("nobody", withoutParts(album, 0), 0, 0, 16, 12);
        dueCut("who is not there", withoutParts(album, 4), 0, 0, 16, 12);
        dueCut("b", withoutParts(album, 2), 0, 1, 16, 11);
        dueCut("b and p", withoutParts(album, 2 + 32768), 0, 1, 15, 11);
        dueCut("both figures of a, a like one to the right", withoutParts(album, 1), 8, 0, 8, 9);
        dueCut("all", withoutParts(album, 65535), 8, 1, 8, 8);
        for (int persons : new int[] {-1, 65536, Integer.MIN_VALUE, Integer.MAX_VALUE}) {
            BENCH.due("without " + persons, album.without(persons, 0), -1);
        }
        BENCH.due("what 4", album.without(1, 4), -1);
        BENCH.due("what -1", album.without(1, -1), -1);
        Bench.print(album, "c0,0:16x6;d0,6:16x6");
        BENCH.due("everything is covered", album.without(12, 0), -2);
        BENCH.due("NONE ahead of -2", album.without(12, 4), -1);
        dueCut("half of it", withoutParts(album, 8), 0, 0, 16, 6);
    }

    private static void likeCuts() {
        MarginAlbum album = Bench.printed("a0,5:16x2");
        dueCut("the lowest top", withoutParts(album, 1), 0, 0, 16, 5);
        Bench.print(album, "a7,0:2x12");
        dueCut("then the lowest left", withoutParts(album, 1), 0, 0, 7, 12);
        Bench.print(album, "a2,2:14x10;b0,4:2x8;b4,0:12x2");
        dueCut("then the widest", withoutParts(album, 3), 0, 0, 4, 2);
        Bench.print(album, "a0,0:16x1;a0,1:4x11;a6,1:10x11");
        dueCut("none but a strip", withoutParts(album, 1), 4, 1, 2, 11);
        Bench.print(album, "a0,0:15x12;a15,0:1x11");
        dueCut("one cell in the corner", withoutParts(album, 1), 15, 11, 1, 1);
    }

    private static void today() {
        MarginAlbum album = Bench.printed("a0,0:8x12;b8,0:8x12");
        album.pain(0, 51);
        BENCH.due("left", album.today(0), 8);
        BENCH.due("top", album.today(1), 0);
        BENCH.due("wide", album.today(2), 8);
        BENCH.due("high", album.today(3), 12);
        Bench.law(album, "c(p=1);w60(1=1)");
        BENCH.due("no law is asked", album.today(0), 8);
        album.pain(1, 51);
        BENCH.due("none", album.today(0), -2);
        BENCH.due("what 4", album.today(4), -1);
        BENCH.due("what -1", album.today(-1), -1);
        album.bound(51);
        BENCH.due("by the bound", album.today(2), 16);
    }

    private static void dueShown(MarginAlbum album, int[] rect, int... due) {
        for (int what = 0; what < 5; what++) {
            BENCH.due("shows " + rect[0] + " " + rect[1] + " " + rect[2] + " " + rect[3] + " " + what,
                    album.shows(rect[0], rect[1], rect[2], rect[3], what), due[what]);
        }
    }

    private static void shows() {
        MarginAlbum album = Bench.printed("a4,4:2x2;b6,4:2x3;c2,2:1x1;d9,9:1x1;a10,4:1x1;e0,11:16x1");
        dueShown(album, new int[] {0, 0, 16, 12}, 31, 0, 0, 0, 0);
        dueShown(album, new int[] {4, 4, 2, 2}, 1, 0, 0, 2, 4);
        dueShown(album, new int[] {3, 3, 4, 3}, 1, 2, 0, 4, 4);
        dueShown(album, new int[] {3, 5, 8, 4}, 0, 3, 3, 8, 4);
        dueShown(album, new int[] {8, 4, 3, 1}, 1, 0, 0, 2, 4);
        dueShown(album, new int[] {1, 1, 1, 1}, 0, 0, 0, 4, 4);
        dueShown(album, new int[] {3, 1, 1, 1}, 0, 0, 0, 4, 4);
        dueShown(album, new int[] {4, 2, 1, 1}, 0, 0, 0, 0, 4);
        dueShown(album, new int[] {0, 11, 15, 1}, 0, 16, 0, 0, 2);
        dueShown(album, new int[] {0, 10, 1, 1}, 0, 0, 0, 16, 3);
        dueShown(album, new int[] {0, 0, 1, 12}, 0, 16, 0, 0, 1);
        dueShown(album, new int[] {15, 0, 1, 1}, 0, 0, 0, 0, 2);
        int[][] wrong = {{-1, 0, 1, 1, 0}, {0, -1, 1, 1, 0}, {16, 0, 1, 1, 0}, {0, 12, 1, 1, 0}, {0, 0, 0, 1, 0},
            {0, 0, 1, 0, 0}, {0, 0, 17, 1, 0}, {0, 0, 1, 13, 0}, {15, 0, 2, 1, 0}, {0, 11, 1, 2, 0},
            {1, 1, Integer.MAX_VALUE, 1, 0}, {1, 1, 1, Integer.MAX_VALUE, 0}, {0, 0, 1, 1, 5}, {0, 0, 1, 1, -1},
            {Integer.MAX_VALUE, 0, 1, 1, 0}, {0, 0, -1, 1, 0}};
        for (int[] r : wrong) {
            BENCH.due("shows " + java.util.Arrays.toString(r), album.shows(r[0], r[1], r[2], r[3], r[4]), -1);
        }
        Bench.edits(album, "#3!");
        BENCH.due("who is out is not beyond", album.shows(3, 5, 8, 4, 3), 0);
    }

    private static void sky() {
        MarginAlbum album = new MarginAlbum();
        BENCH.due("all sky", album.sky(2) * album.sky(3), 192);
        Bench.print(album, "a0,3:16x1;p7,4:2x8");
        int[] due = {0, 4, 7, 8};
        for (int what = 0; what < 4; what++) {
            BENCH.due("sky " + what, album.sky(what), due[what]);
        }
        BENCH.due("sky 4", album.sky(4), -1);
        BENCH.due("sky -1", album.sky(-1), -1);
        Bench.print(album, "a0,0:16x12");
        BENCH.due("no sky", album.sky(3), -2);
    }

    private static void smallest() {
        MarginAlbum album = Bench.printed("a0,0:4x4;b6,6:2x1;c6,8:1x2;a15,11:1x1;d7,6:1x1");
        dueCut("one", smallestParts(album, 1), 7, 6, 1, 1);
        dueCut("two", smallestParts(album, 2), 6, 6, 2, 1);
        dueCut("three", smallestParts(album, 3), 6, 6, 2, 4);
        dueCut("four", smallestParts(album, 4), 6, 6, 10, 6);
        BENCH.due("five", album.smallest(5, 0), -2);
        BENCH.due("sixteen", album.smallest(16, 0), -2);
        for (int k : new int[] {0, 17, -1, Integer.MAX_VALUE, Integer.MIN_VALUE}) {
            BENCH.due("smallest " + k, album.smallest(k, 0), -1);
        }
        BENCH.due("what 4", album.smallest(1, 4), -1);
        BENCH.due("what -1", album.smallest(16, -1), -1);
        Bench.print(album, "a3,3:2x2;b3,3:2x2");
        dueCut("more than one show in the smallest", smallestParts(album, 1), 3, 3, 2, 2);
        Bench.print(album, "a0,1:1x2;b2,0:1x2;c1,0:2x1");
        dueCut("like ones: top, left", smallestParts(album, 1), 1, 0, 2, 1);
        Bench.print(album, "a0,0:1x1;b3,0:1x1;c0,3:1x1");
        dueCut("like ones: the widest", smallestParts(album, 2), 0, 0, 4, 1);
    }

    private static void smallestOf() {
        MarginAlbum album = Bench.printed("a0,0:4x4;b6,6:2x1;c6,8:1x2;a15,11:1x1;p7,6:1x1");
        dueCut("a", smallestOfParts(album, 1), 15, 11, 1, 1);
        dueCut("a and b", smallestOfParts(album, 3), 0, 0, 8, 7);
        dueCut("b and p", smallestOfParts(album, 2 + 32768), 6, 6, 2, 1);
        dueCut("a, b, c", smallestOfParts(album, 7), 6, 6, 10, 6);
        BENCH.due("who is not there", album.smallestOf(8, 0), -2);
        BENCH.due("one of them is not there", album.smallestOf(9, 0), -2);
        for (int persons : new int[] {0, -1, 65536, Integer.MAX_VALUE, Integer.MIN_VALUE}) {
            BENCH.due("smallestOf " + persons, album.smallestOf(persons, 0), -1);
        }
        BENCH.due("what 4", album.smallestOf(1, 4), -1);
        BENCH.due("NONE ahead of -2", album.smallestOf(8, -1), -1);
    }
}
