/** "A CUT", "By a rectangle", "SNIPS", "SKY", "SMALLEST": on both sides of each boundary; promises 13 to 18. */
public final class RectangleEdgesTest {
    private static final Bench BENCH = new Bench("RectangleEdgesTest");
    private static final int[] WRONG_WHATS = {-1, 4, Integer.MIN_VALUE, Integer.MAX_VALUE};

    public static void main(String[] args) {
        theLargest();
        theLowestTopOfLikeOnes();
        thenTheLowestLeft();
        thenTheWidest();
        everythingIsCovered();
        withoutSomePersons();
        wrongPersons();
        withoutThosePainfulToday();
        aRectangleOnThePrint();
        oneCellAnywhere();
        aFigureAnywhere();
        personsOfTwoFigures();
        snips();
        sky();
        soManyPersonsWhole();
        somePersonsWhole();
        smallestOfLikeOnes();
        wrongSmallest();
        BENCH.end();
    }

    /** A print on which a covers all CELLS but those of the holes (left, top, wide, high). */
    private static String holes(int[]... holes) {
        boolean[][] free = new boolean[12][16];
        for (int[] hole : holes) {
            for (int y = hole[1]; y < hole[1] + hole[3]; y++) {
                java.util.Arrays.fill(free[y], hole[0], hole[0] + hole[2], true);
            }
        }
        StringBuilder text = new StringBuilder();
        for (int y = 0; y < 12; ) {
            int end = y + 1;
            while (end < 12 && java.util.Arrays.equals(free[y], free[end])) {
                end++;
            }
            for (int x = 0; x < 16; x++) {
                int start = x;
                while (x < 16 && !free[y][x]) {
                    x++;
                }
                if (x > start) {
                    text.append(text.length() == 0 ? "a" : ";a").append(start).append(',').append(y);
                    text.append(':').append(x - start).append('x').append(end - y);
                }
            }
            y = end;
        }
        return text.toString();
    }

    /** The CUT of such a print, asked in each way: due are left, top, wide, high. */
    private static void dueCut(int[] due, int[]... holes) {
        String print = holes(holes);
        MarginAlbum album = Bench.printed(print);
        for (int what = 0; what < 4; what++) {
            BENCH.due("without a: " + print + " " + what, album.without(1, what), due[what]);
            BENCH.due("sky: " + print + " " + what, album.sky(what), due[what]);
        }
        album.pain(0, 51);
        album.days(1);
        for (int what = 0; what < 4; what++) {
            BENCH.due("today: " + print + " " + what, album.today(what), due[what]);
            BENCH.due("the album's: " + print + " " + what, album.album(1, what), due[what]);
        }
    }

    private static int[] rect(int left, int top, int wide, int high) {
        return new int[] {left, top, wide, high};
    }

    /** "a rectangle of CELLS in which no CELL .. lies: the largest (CELLS)". */
    private static void theLargest() {
        dueCut(rect(3, 2, 1, 1), rect(3, 2, 1, 1));
        dueCut(rect(15, 11, 1, 1), rect(15, 11, 1, 1));
        dueCut(rect(15, 0, 1, 1), rect(15, 0, 1, 1));
        dueCut(rect(0, 11, 1, 1), rect(0, 11, 1, 1));
        dueCut(rect(15, 10, 1, 2), rect(0, 0, 1, 1), rect(15, 10, 1, 2));
        dueCut(rect(9, 9, 3, 3), rect(0, 0, 4, 2), rect(9, 9, 3, 3));
        dueCut(rect(0, 5, 16, 2), rect(4, 0, 2, 12), rect(0, 5, 16, 2));
        dueCut(rect(3, 5, 2, 5), rect(3, 5, 4, 2), rect(3, 5, 2, 5));
        dueCut(rect(0, 1, 16, 11), rect(0, 1, 16, 11));
        dueCut(rect(0, 0, 16, 11), rect(0, 0, 16, 11));
        dueCut(rect(1, 0, 15, 12), rect(1, 0, 15, 12));
        dueCut(rect(0, 0, 15, 12), rect(0, 0, 15, 12));
        // 12 cells: less than 13, more than 11
        dueCut(rect(3, 3, 13, 1), rect(3, 3, 13, 1), rect(0, 6, 3, 4));
        dueCut(rect(0, 6, 3, 4), rect(3, 3, 11, 1), rect(0, 6, 3, 4));
    }

    /** "of like ones the lowest top Y". */
    private static void theLowestTopOfLikeOnes() {
        dueCut(rect(0, 0, 1, 1), rect(0, 0, 1, 1), rect(15, 11, 1, 1));
        dueCut(rect(5, 0, 3, 2), rect(5, 0, 3, 2), rect(0, 1, 2, 3));
        dueCut(rect(9, 0, 1, 6), rect(9, 0, 1, 6), rect(0, 1, 6, 1));
        dueCut(rect(0, 0, 16, 1), rect(0, 0, 16, 1), rect(0, 11, 16, 1));
        dueCut(rect(14, 3, 1, 6), rect(14, 3, 1, 6), rect(0, 4, 2, 3), rect(3, 10, 6, 1));
        dueCut(rect(4, 0, 2, 12), rect(4, 0, 2, 12), rect(0, 5, 12, 2));
    }

    /** "then the lowest left X". */
    private static void thenTheLowestLeft() {
        dueCut(rect(0, 0, 2, 3), rect(0, 0, 2, 3), rect(5, 0, 3, 2));
        dueCut(rect(0, 0, 3, 2), rect(0, 0, 3, 2), rect(5, 0, 2, 3));
        dueCut(rect(0, 0, 1, 12), rect(0, 0, 1, 12), rect(15, 0, 1, 12));
        dueCut(rect(2, 7, 1, 4), rect(2, 7, 1, 4), rect(9, 7, 4, 1));
        dueCut(rect(2, 7, 4, 1), rect(2, 7, 4, 1), rect(9, 7, 1, 4));
        dueCut(rect(2, 7, 4, 1), rect(2, 7, 4, 1), rect(9, 7, 4, 1));
    }

    /** "then the widest": more than one at the same place. */
    private static void thenTheWidest() {
        dueCut(rect(0, 0, 4, 2), rect(0, 0, 4, 2), rect(0, 0, 2, 4));
        dueCut(rect(3, 5, 4, 2), rect(3, 5, 4, 2), rect(3, 5, 2, 4));
        dueCut(rect(3, 5, 6, 1), rect(3, 5, 1, 6), rect(3, 5, 2, 3), rect(3, 5, 3, 2), rect(3, 5, 6, 1));
        dueCut(rect(4, 0, 12, 1), rect(4, 0, 12, 1), rect(4, 0, 1, 12));
    }

    /** "(none: everything is covered)", "-2: none". */
    private static void everythingIsCovered() {
        MarginAlbum album = Bench.printed("a0,0:16x6;b0,6:16x6");
        for (int what = 0; what < 4; what++) {
            BENCH.due("without both " + what, album.without(3, what), -2);
            BENCH.due("sky " + what, album.sky(what), -2);
        }
        BENCH.due("without a alone", album.without(1, 1), 6);
        for (int what : WRONG_WHATS) {
            BENCH.due("NONE ahead of -2", album.without(3, what), -1);
            BENCH.due("NONE ahead of -2 by sky", album.sky(what), -1);
        }
        BENCH.due("nobody is painful", album.today(2), 16);
        album.pain(0, 99);
        album.pain(1, 99);
        for (int what = 0; what < 4; what++) {
            BENCH.due("today " + what, album.today(what), -2);
        }
        for (int what : WRONG_WHATS) {
            BENCH.due("NONE ahead of -2 by today", album.today(what), -1);
        }
    }

    private static void dueWithout(MarginAlbum album, int persons, int... due) {
        for (int what = 0; what < 4; what++) {
            BENCH.due("without " + persons + ", " + what, album.without(persons, what), due[what]);
        }
    }

    /** "no CELL of a FIGURE of any of some PERSONS". */
    private static void withoutSomePersons() {
        MarginAlbum album = Bench.printed("a0,0:16x1;b0,11:16x1;p15,0:1x12;c0,0:1x1;a0,5:2x1");
        dueWithout(album, 0, 0, 0, 16, 12);
        dueWithout(album, 8, 0, 0, 16, 12);
        dueWithout(album, 2, 0, 0, 16, 11);
        dueWithout(album, 32768, 0, 0, 15, 12);
        dueWithout(album, 4, 1, 0, 15, 12);
        dueWithout(album, 1, 2, 1, 14, 11);
        dueWithout(album, 1 + 2, 2, 1, 14, 10);
        dueWithout(album, 65535, 2, 1, 13, 10);
        Bench.edits(album, "#0!");
        dueWithout(album, 1, 2, 0, 14, 12);
        Bench.edits(album, "#4!");
        dueWithout(album, 1, 0, 0, 16, 12);
    }

    /** "WITHOUT some PERSONS (bits) .. NONE: no such ones". */
    private static void wrongPersons() {
        MarginAlbum album = Bench.printed("a0,0:1x1");
        for (int persons : new int[] {-1, 65536, 65537, Integer.MIN_VALUE, Integer.MAX_VALUE}) {
            for (int what = 0; what < 4; what++) {
                BENCH.due("without " + persons, album.without(persons, what), -1);
            }
        }
        for (int what : WRONG_WHATS) {
            BENCH.due("without 1 " + what, album.without(1, what), -1);
        }
        BENCH.due("without 65535", album.without(65535, 0), 1);
        BENCH.due("without 0", album.without(0, 2), 16);
    }

    /** "THE CUT of today (WITHOUT those PAINFUL; no c)". */
    private static void withoutThosePainfulToday() {
        MarginAlbum album = Bench.printed("a0,0:8x12;b8,0:8x12");
        Bench.law(album, "c(p=1);w99(1=1)");
        BENCH.due("no c, no w", album.today(2), 16);
        album.pain(0, 50);
        BENCH.due("at the bound", album.today(2), 16);
        album.pain(0, 51);
        int[] due = {8, 0, 8, 12};
        for (int what = 0; what < 4; what++) {
            BENCH.due("above the bound " + what, album.today(what), due[what]);
        }
        album.bound(51);
        BENCH.due("at a new bound", album.today(2), 16);
        for (int what : WRONG_WHATS) {
            BENCH.due("today " + what, album.today(what), -1);
        }
    }

    /** "By a rectangle (left, top, wide, high; on the PRINT) .. NONE: no such ones". */
    private static void aRectangleOnThePrint() {
        MarginAlbum album = Bench.printed("a0,0:16x12");
        int[][] right = {{0, 0, 16, 12}, {0, 0, 1, 1}, {15, 11, 1, 1}, {15, 0, 1, 12}, {0, 11, 16, 1}, {1, 1, 15, 11}};
        for (int[] r : right) {
            BENCH.due("shows " + java.util.Arrays.toString(r), album.shows(r[0], r[1], r[2], r[3], 3), 0);
        }
        int least = Integer.MIN_VALUE;
        int most = Integer.MAX_VALUE;
        int[][] wrong = {{-1, 0, 1, 1}, {16, 0, 1, 1}, {0, -1, 1, 1}, {0, 12, 1, 1}, {0, 0, 0, 1}, {0, 0, 17, 1},
            {0, 0, 1, 0}, {0, 0, 1, 13}, {1, 0, 16, 1}, {0, 1, 1, 12}, {15, 0, 2, 1}, {0, 11, 1, 2}, {-1, 0, 2, 1},
            {0, -1, 1, 2}, {0, 0, -1, 1}, {0, 0, 1, -1}, {least, 0, 1, 1}, {most, 0, 1, 1}, {0, least, 1, 1},
            {0, most, 1, 1}, {1, 1, most, 1}, {1, 1, 1, most}, {0, 0, least, 1}, {0, 0, 1, least}, {most, 0, most, 1},
            {1, 1, most - 1, most - 1}, {least, least, least, least}};
        for (int[] r : wrong) {
            for (int what = 0; what < 5; what++) {
                BENCH.due("shows " + java.util.Arrays.toString(r), album.shows(r[0], r[1], r[2], r[3], what), -1);
            }
        }
        for (int what : new int[] {-1, 5, least, most}) {
            BENCH.due("shows what " + what, album.shows(0, 0, 1, 1, what), -1);
        }
    }

    private static final int[][] RECTANGLES = {{5, 4, 4, 3}, {0, 0, 1, 1}, {15, 11, 1, 1}, {0, 0, 16, 12},
        {7, 0, 1, 12}, {0, 6, 16, 1}, {14, 0, 2, 2}};

    private static boolean isIn(int[] r, int x, int y) {
        return x >= r[0] && x < r[0] + r[2] && y >= r[1] && y < r[1] + r[3];
    }

    /** WHOLE, BEYOND ("but one in the CELLS that touch it by a side or a corner") of a FIGURE of one CELL. */
    private static void oneCellAnywhere() {
        for (int x = 0; x < 16; x++) {
            for (int y = 0; y < 12; y++) {
                MarginAlbum album = Bench.printed("c" + x + "," + y + ":1x1");
                for (int[] r : RECTANGLES) {
                    int[] around = {r[0] - 1, r[1] - 1, r[2] + 2, r[3] + 2};
                    int[] due = {isIn(r, x, y) ? 4 : 0, 0, 0, !isIn(r, x, y) && isIn(around, x, y) ? 4 : 0};
                    for (int what = 0; what < 4; what++) {
                        BENCH.due("a cell at " + x + "," + y + " by " + java.util.Arrays.toString(r) + " " + what,
                                album.shows(r[0], r[1], r[2], r[3], what), due[what]);
                    }
                }
            }
        }
    }

    /** WHOLE, PARTLY ("some CELL, no FIGURE wholly"), HEADS ("CELLS in it, but none of its head"), BEYOND. */
    private static void aFigureAnywhere() {
        for (int[] size : new int[][] {{3, 2}, {1, 3}, {6, 5}}) {
            for (int left = 0; left + size[0] <= 16; left++) {
                for (int top = 0; top + size[1] <= 12; top++) {
                    MarginAlbum album = Bench.printed("p" + left + "," + top + ":" + size[0] + "x" + size[1]);
                    for (int[] r : RECTANGLES) {
                        int[] due = shown(left, top, size, r);
                        for (int what = 0; what < 4; what++) {
                            BENCH.due("a figure at " + left + "," + top + " by " + java.util.Arrays.toString(r) + " " + what,
                                    album.shows(r[0], r[1], r[2], r[3], what), due[what] << 15);
                        }
                    }
                }
            }
        }
    }

    private static int[] shown(int left, int top, int[] size, int[] r) {
        int in = 0;
        int head = 0;
        int near = 0;
        int[] around = {r[0] - 1, r[1] - 1, r[2] + 2, r[3] + 2};
        for (int x = left; x < left + size[0]; x++) {
            for (int y = top; y < top + size[1]; y++) {
                in += isIn(r, x, y) ? 1 : 0;
                near += isIn(around, x, y) ? 1 : 0;
            }
            head += isIn(r, x, top) ? 1 : 0;
        }
        boolean isWhole = in == size[0] * size[1];
        return new int[] {isWhole ? 1 : 0, in > 0 && !isWhole ? 1 : 0, in > 0 && head == 0 ? 1 : 0,
            in == 0 && near > 0 ? 1 : 0};
    }

    private static void dueShown(MarginAlbum album, int... due) {
        for (int what = 0; what < 4; what++) {
            BENCH.due("two figures, " + what, album.shows(5, 4, 4, 3, what), due[what]);
        }
    }

    /** "some FIGURE lies in it wholly", "no FIGURE wholly", "some FIGURE has CELLS in it, but none of its head". */
    private static void personsOfTwoFigures() {
        dueShown(Bench.printed("a5,4:1x1;a8,6:2x2"), 1, 0, 0, 0);
        dueShown(Bench.printed("a8,6:2x2;a5,4:1x1"), 1, 0, 0, 0);
        dueShown(Bench.printed("a5,4:1x1;a8,3:1x2"), 1, 0, 1, 0);
        dueShown(Bench.printed("a5,3:1x2;a8,5:1x3"), 0, 1, 1, 0);
        dueShown(Bench.printed("a5,5:1x1;a9,5:1x1"), 1, 0, 0, 0);
        dueShown(Bench.printed("a5,3:1x2;a9,5:1x1"), 0, 1, 1, 0);
        dueShown(Bench.printed("a0,0:1x1;a9,5:1x1"), 0, 0, 0, 1);
        dueShown(Bench.printed("a9,5:1x1;b4,3:1x1;c5,4:4x3;d4,3:6x5;e8,6:1x6"), 4, 8 + 16, 8, 3);
        MarginAlbum album = Bench.printed("a5,4:1x1;a9,5:1x1;b8,3:1x2");
        Bench.edits(album, "#0!;#2!");
        dueShown(album, 0, 0, 0, 1);
    }

    /** "SNIPS: how many of its four sides are not at the PRINT's edge". */
    private static void snips() {
        MarginAlbum album = new MarginAlbum();
        int[][] rows = {{0, 0, 16, 12, 0}, {1, 0, 15, 12, 1}, {0, 1, 16, 11, 1}, {0, 0, 15, 12, 1}, {0, 0, 16, 11, 1},
            {1, 1, 15, 11, 2}, {1, 0, 14, 12, 2}, {0, 1, 16, 10, 2}, {0, 0, 15, 11, 2}, {0, 0, 1, 1, 2},
            {15, 11, 1, 1, 2}, {1, 1, 14, 11, 3}, {1, 1, 15, 10, 3}, {0, 1, 15, 10, 3}, {1, 0, 14, 11, 3},
            {1, 1, 14, 10, 4}, {8, 6, 1, 1, 4}, {14, 10, 1, 1, 4}};
        for (int[] r : rows) {
            BENCH.due("snips of " + java.util.Arrays.toString(r), album.shows(r[0], r[1], r[2], r[3], 4), r[4]);
        }
    }

    /** "SKY: the largest CUT without any FIGURE's CELL". */
    private static void sky() {
        MarginAlbum album = new MarginAlbum();
        int[] all = {0, 0, 16, 12};
        int[] some = {0, 4, 7, 8};
        for (int what = 0; what < 4; what++) {
            BENCH.due("no figure: sky " + what, album.sky(what), all[what]);
        }
        Bench.print(album, "a0,3:16x1;p7,4:2x8");
        for (int what = 0; what < 4; what++) {
            BENCH.due("sky " + what, album.sky(what), some[what]);
        }
        for (int what : WRONG_WHATS) {
            BENCH.due("sky " + what, album.sky(what), -1);
        }
    }

    private static void dueSmallest(String print, int k, int... due) {
        MarginAlbum album = Bench.printed(print);
        for (int what = 0; what < 4; what++) {
            BENCH.due("smallest " + k + " of " + print + ", " + what, album.smallest(k, what), due[what]);
        }
    }

    /** "the rectangle with the fewest CELLS in which so many PERSONS (1 to 16) show WHOLE". */
    private static void soManyPersonsWhole() {
        String print = "a0,0:4x4;b6,6:2x1;c6,8:1x2;p15,11:1x1;d7,6:1x1";
        dueSmallest(print, 1, 7, 6, 1, 1);
        dueSmallest(print, 2, 6, 6, 2, 1);
        dueSmallest(print, 3, 6, 6, 2, 4);
        dueSmallest(print, 4, 6, 6, 10, 6);
        dueSmallest(print, 5, 0, 0, 16, 12);
        for (int k = 6; k <= 16; k++) {
            dueSmallest(print, k, -2, -2, -2, -2);
        }
        // a PERSON is one, however many FIGURES show
        dueSmallest("a0,0:1x1;a1,0:1x1;b9,9:1x1", 2, 1, 0, 9, 10);
        dueSmallest("a0,0:16x12", 1, 0, 0, 16, 12);
        dueSmallest("a15,11:1x1", 1, 15, 11, 1, 1);
        dueSmallest("a15,11:1x1", 2, -2, -2, -2, -2);
        String twelve = "a0,0:1x1;b1,0:1x1;c2,0:1x1;d3,0:1x1;e4,0:1x1;f5,0:1x1;g6,0:1x1;h7,0:1x1;i8,0:1x1;j9,0:1x1;"
                + "k10,0:1x1;l11,0:1x1";
        for (int k = 1; k <= 12; k++) {
            dueSmallest(twelve, k, 0, 0, k, 1);
        }
        dueSmallest(twelve, 13, -2, -2, -2, -2);
        BENCH.due("of nobody", new MarginAlbum().smallest(1, 0), -2);
    }

    private static void dueSmallestOf(String print, int persons, int... due) {
        MarginAlbum album = Bench.printed(print);
        for (int what = 0; what < 4; what++) {
            BENCH.due("smallest of " + persons + " of " + print + ", " + what, album.smallestOf(persons, what), due[what]);
        }
    }

    /** "in which some PERSONS (bits) all do", "(bits, not 0)", "-2: none". */
    private static void somePersonsWhole() {
        String print = "a0,0:4x4;b6,6:2x1;c6,8:1x2;a15,11:1x1;p7,6:1x1";
        dueSmallestOf(print, 1, 15, 11, 1, 1);
        dueSmallestOf(print, 2, 6, 6, 2, 1);
        dueSmallestOf(print, 3, 0, 0, 8, 7);
        dueSmallestOf(print, 4, 6, 8, 1, 2);
        dueSmallestOf(print, 6, 6, 6, 2, 4);
        dueSmallestOf(print, 7, 6, 6, 10, 6);
        dueSmallestOf(print, 32768, 7, 6, 1, 1);
        dueSmallestOf(print, 32768 + 2, 6, 6, 2, 1);
        dueSmallestOf(print, 32768 + 7, 6, 6, 10, 6);
        dueSmallestOf(print, 8, -2, -2, -2, -2);
        dueSmallestOf(print, 9, -2, -2, -2, -2);
        dueSmallestOf(print, 65535, -2, -2, -2, -2);
        BENCH.due("of nobody", new MarginAlbum().smallestOf(1, 0), -2);
    }

    /** "of like ones the lowest top, then left, then the widest". */
    private static void smallestOfLikeOnes() {
        dueSmallest("a0,1:2x1;b9,0:1x2", 1, 9, 0, 1, 2);
        dueSmallest("b9,0:1x2;a0,1:2x1", 1, 9, 0, 1, 2);
        dueSmallest("a4,0:2x1;b0,0:1x2", 1, 0, 0, 1, 2);
        dueSmallest("a4,0:1x2;b0,0:2x1", 1, 0, 0, 2, 1);
        dueSmallest("a0,0:1x2;b0,0:2x1", 1, 0, 0, 2, 1);
        dueSmallest("a0,0:2x1;b0,0:1x2", 1, 0, 0, 2, 1);
        dueSmallest("a0,0:1x1;b3,0:1x1;c0,3:1x1", 2, 0, 0, 4, 1);
        dueSmallest("a2,2:1x1;b3,4:1x1;c4,3:1x1", 2, 3, 3, 2, 2);
        dueSmallest("a2,2:1x1;b3,4:1x1;c5,3:1x1", 2, 2, 2, 2, 3);
        dueSmallestOf("a0,1:2x1;a9,0:1x2", 1, 9, 0, 1, 2);
        dueSmallestOf("a4,0:2x1;a0,0:1x2", 1, 0, 0, 1, 2);
        dueSmallestOf("a0,0:1x2;a0,0:2x1", 1, 0, 0, 2, 1);
        dueSmallestOf("a0,0:1x1;b3,0:1x1;b0,3:1x1", 3, 0, 0, 4, 1);
    }

    /** "NONE: no such ones". */
    private static void wrongSmallest() {
        MarginAlbum album = Bench.printed("a0,0:1x1");
        for (int wrong : new int[] {0, -1, 17, Integer.MIN_VALUE, Integer.MAX_VALUE}) {
            BENCH.due("smallest " + wrong, album.smallest(wrong, 0), -1);
        }
        for (int wrong : new int[] {0, -1, 65536, 65537, Integer.MIN_VALUE, Integer.MAX_VALUE}) {
            BENCH.due("smallestOf " + wrong, album.smallestOf(wrong, 0), -1);
        }
        for (int what : WRONG_WHATS) {
            BENCH.due("smallest what " + what, album.smallest(1, what), -1);
            BENCH.due("smallestOf what " + what, album.smallestOf(1, what), -1);
            BENCH.due("smallest: NONE ahead of -2", album.smallest(16, what), -1);
            BENCH.due("smallestOf: NONE ahead of -2", album.smallestOf(2, what), -1);
        }
    }
}
