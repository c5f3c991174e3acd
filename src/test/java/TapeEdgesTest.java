/** The tape; "PAGES", "OFFCUTS", "FOLD", "TOLD", "FRAMES", "CHECK": on both sides; promises 4, 22 to 26, 30. */
public final class TapeEdgesTest {
    private static final Bench BENCH = new Bench("TapeEdgesTest");
    private static final int LEAST = Integer.MIN_VALUE;
    private static final int MOST = Integer.MAX_VALUE;

    public static void main(String[] args) {
        theHighestByteFirst();
        noMoreThan260();
        sizesOfPages();
        besideOrBelow();
        inWhatOrder();
        theFewestInAnyOrder();
        pagesAgain();
        wrongPages();
        lengthsOfOffcuts();
        theFewestOffcuts();
        wrongOffcuts();
        fold();
        whoCouldBePainful();
        twosOfPersons();
        theFewestThatExplain();
        wrongTold();
        sizesOfFrames();
        narrowerAndLower();
        orSoWhenTurned();
        framesAgain();
        wrongFrames();
        check();
        wrongCheck();
        BENCH.end();
    }

    /** "Twenty bytes come behind the tape, the highest of each int first: how many it has". */
    private static void theHighestByteFirst() {
        MarginAlbum album = new MarginAlbum();
        int[] pain = {1, 2, 3, 4, 11, 12, 13, 14, 21, 22, 23, 24, 31, 32, 33, 34};
        for (int p = 0; p < 16; p++) {
            album.pain(p, pain[p]);
        }
        BENCH.due("20 bytes", album.feed(0x01020304, 0x0b0c0d0e, 0x15161718, 0x1f202122, 0x292a2b2c), 20);
        BENCH.due("in their row", album.check(16), -1);
        album.feed(0x01020304, 0x0b0c0d0e, 0x15161718, 0x1f202123, 0x292a2b2c);
        BENCH.due("the lowest of an int is the last", album.check(16), 15);
        album.feed(0x81020304, 0x0b0c0d0e, 0x15161718, 0x1f202122, 0);
        BENCH.due("the highest of an int is the first", album.check(16), 0);
        // the fifth int, and those behind the first twenty, by a print of 30 bytes
        int[] text = Bench.bytesOf("a0,0:1x1;b1,1:2x2;c15,11:1x1;d");
        BENCH.due("behind the tape", Bench.feed(album, text), 40);
        BENCH.due("both", album.print(28), 3);
        BENCH.due("of the fifth int", album.figureIs(2, 1), 15);
        // a byte above 127 is no less than 128
        album.feed(0xffff0000, 0, 0, 0, 0);
        BENCH.due("255", album.frames(1, false), 1);
        album.feed(0x80808181, 0, 0, 0, 0);
        BENCH.due("128 goes into 129", album.frames(2, false), 2);
        album.feed(0x7f7f8080, 0, 0, 0, 0);
        BENCH.due("127 goes into 128", album.frames(2, false), 2);
    }

    /** "NONE if that would be more than 260". */
    private static void noMoreThan260() {
        MarginAlbum album = new MarginAlbum();
        for (int i = 1; i <= 13; i++) {
            BENCH.due("feed " + i, album.feed(i == 1 ? 0x01010202 : 0, 0, 0, 0, 0), 20 * i);
            BENCH.due("bytes", album.count(3), 20 * i);
        }
        BENCH.due("a 14th feed", album.feed(-1, -1, -1, -1, -1), -1);
        BENCH.due("a 15th feed", album.feed(-1, -1, -1, -1, -1), -1);
        BENCH.due("bytes stay", album.count(3), 260);
        BENCH.due("those that were fed first", album.frames(2, false), 2);
        BENCH.due("emptied", album.count(3), 0);
        BENCH.due("fed anew", album.feed(0, 0, 0, 0, 0), 20);
        BENCH.due("the first of them", album.check(1), -1);
    }

    private static void duePages(int row, int any, int... sizes) {
        String call = "pages " + java.util.Arrays.toString(sizes);
        int[] due = {row, any};
        for (int what = 0; what < 2; what++) {
            MarginAlbum album = new MarginAlbum();
            // what is behind the first 2 n bytes is not read
            int[] bytes = java.util.Arrays.copyOf(sizes, 20);
            java.util.Arrays.fill(bytes, sizes.length, 20, 255);
            Bench.feed(album, bytes);
            BENCH.due(call + " " + what, album.pages(sizes.length / 2, what), due[what]);
            BENCH.due("empty then", album.count(3), 0);
        }
    }

    /** "1 to 6 CUTS (so wide 1 to 16, so high 1 to 12)", "-2: one that is 0, does not go on a PAGE". */
    private static void sizesOfPages() {
        duePages(1, 1, 1, 1);
        duePages(1, 1, 16, 12);
        duePages(-2, -2, 0, 1);
        duePages(-2, -2, 1, 0);
        duePages(-2, -2, 17, 1);
        duePages(-2, -2, 1, 13);
        duePages(-2, -2, 255, 1);
        duePages(-2, -2, 1, 255);
        duePages(-2, -2, 1, 1, 0, 1);
        duePages(1, 1, 1, 1, 1, 1, 1, 1, 1, 1, 1, 1, 1, 1);
        duePages(-2, -2, 1, 1, 1, 1, 1, 1, 1, 1, 1, 1, 17, 1);
        duePages(-2, -2, 1, 1, 1, 1, 1, 1, 1, 1, 1, 1, 1, 13);
        duePages(6, 6, 16, 12, 16, 12, 16, 12, 16, 12, 16, 12, 16, 12);
        duePages(6, 6, 9, 7, 9, 7, 9, 7, 9, 7, 9, 7, 9, 7);
    }

    /** "one goes beside the one ahead if there is room to the right of it and from the strip's top down; else ..". */
    private static void besideOrBelow() {
        duePages(1, 1, 8, 12, 8, 12);
        duePages(2, 2, 8, 12, 9, 12);
        duePages(1, 1, 15, 12, 1, 12);
        duePages(2, 2, 16, 12, 1, 1);
        duePages(1, 1, 16, 6, 16, 6);
        duePages(2, 2, 16, 6, 16, 7);
        duePages(1, 1, 16, 11, 16, 1);
        duePages(2, 2, 16, 11, 16, 2);
        duePages(1, 1, 4, 12, 4, 12, 4, 12, 4, 12);
        duePages(2, 2, 4, 12, 4, 12, 4, 12, 5, 12);
        // a strip is as high as the highest in it, wherever that stands
        duePages(1, 1, 8, 1, 8, 11, 16, 1);
        duePages(1, 1, 8, 11, 8, 1, 16, 1);
        duePages(2, 2, 8, 11, 8, 1, 16, 2);
        duePages(2, 2, 8, 1, 8, 11, 16, 2);
        // from the strip's top down: the second strip begins 4 below
        duePages(1, 1, 16, 4, 8, 1, 8, 8);
        duePages(2, 2, 16, 4, 8, 1, 8, 9);
        duePages(1, 1, 16, 5, 15, 1, 1, 7);
        duePages(2, 2, 16, 5, 15, 1, 1, 8);
        duePages(1, 1, 16, 3, 16, 3, 16, 3, 16, 3);
        duePages(2, 2, 16, 3, 16, 3, 16, 3, 16, 3, 1, 1);
        // a new PAGE begins with a strip on top, of its own height
        duePages(2, 2, 16, 12, 8, 1, 8, 12);
        duePages(2, 2, 16, 12, 16, 1, 16, 11);
        duePages(3, 3, 16, 12, 16, 2, 16, 11);
        // beside the one ahead on a new PAGE, too
        duePages(2, 2, 16, 12, 7, 12, 9, 12);
        duePages(3, 3, 16, 12, 8, 12, 9, 12);
    }

    /** "what 0 in their row, 1 the fewest in any". */
    private static void inWhatOrder() {
        duePages(2, 1, 8, 6, 9, 6, 8, 6);
        duePages(3, 2, 8, 12, 9, 12, 8, 12);
        duePages(3, 2, 16, 7, 16, 8, 16, 5, 16, 4);
        duePages(4, 3, 9, 12, 8, 12, 9, 12, 8, 12);
        duePages(2, 2, 8, 12, 9, 12);
        duePages(4, 3, 16, 11, 16, 10, 16, 9, 16, 3, 16, 2, 16, 1);
        duePages(6, 4, 16, 7, 16, 6, 16, 8, 16, 5, 16, 9, 16, 4);
        duePages(5, 3, 16, 6, 16, 7, 16, 6, 16, 8, 16, 5, 16, 4);
    }

    /** "in what order of them (any) the fewest": however they are told. */
    private static void theFewestInAnyOrder() {
        dueInEveryOrder(1, new int[] {8, 6, 8, 6, 9, 6}, 0);
        dueInEveryOrder(2, new int[] {16, 7, 16, 5, 16, 4, 16, 8}, 0);
        dueInEveryOrder(2, new int[] {8, 12, 8, 12, 9, 12, 7, 12}, 0);
        // of these few orders need so few
        dueInEveryOrder(1, new int[] {4, 1, 7, 11, 6, 2, 3, 6}, 0);
        dueInEveryOrder(1, new int[] {8, 1, 6, 5, 2, 10, 8, 9}, 0);
        dueInEveryOrder(2, new int[] {7, 1, 5, 11, 13, 12, 6, 8}, 0);
        dueInEveryOrder(1, new int[] {10, 2, 6, 10, 1, 5, 5, 5, 4, 9}, 0);
        dueInEveryOrder(1, new int[] {7, 3, 7, 3, 7, 8, 7, 8, 3, 1}, 0);
        dueInEveryOrder(2, new int[] {16, 8, 8, 4, 8, 4, 9, 12, 7, 12}, 0);
        dueInEveryOrder(3, new int[] {16, 11, 16, 10, 16, 9, 16, 3, 16, 2, 16, 1}, 0);
        dueInEveryOrder(2, new int[] {16, 6, 16, 6, 8, 6, 8, 6, 8, 6, 8, 6}, 0);
    }

    private static void dueInEveryOrder(int fewest, int[] sizes, int placed) {
        if (2 * placed == sizes.length) {
            MarginAlbum album = new MarginAlbum();
            Bench.feed(album, sizes);
            BENCH.due("the fewest of " + java.util.Arrays.toString(sizes), album.pages(placed, 1), fewest);
        }
        for (int i = placed; 2 * i < sizes.length; i++) {
            int[] next = sizes.clone();
            System.arraycopy(sizes, 2 * placed, next, 2 * i, 2);
            System.arraycopy(sizes, 2 * i, next, 2 * placed, 2);
            dueInEveryOrder(fewest, next, placed + 1);
        }
    }

    /** Each call begins with an empty PAGE, whatever an earlier one left. */
    private static void pagesAgain() {
        MarginAlbum album = new MarginAlbum();
        int[][] rows = {{16, 12}, {16, 12}, {8, 5, 8, 12}, {8, 12, 8, 1}, {16, 11, 16, 1}, {16, 1}, {16, 11, 16, 1},
            {4, 12}, {8, 12, 8, 12}, {4, 1}, {16, 12}};
        for (int what = 0; what < 2; what++) {
            for (int[] sizes : rows) {
                Bench.feed(album, sizes);
                String call = "pages again, " + what + ", " + java.util.Arrays.toString(sizes);
                BENCH.due(call, album.pages(sizes.length / 2, what), 1);
            }
        }
    }

    private static void dueNone(String call, MarginAlbum album, int answer) {
        BENCH.due(call, answer, -1);
        BENCH.due(call + ": the tape stays", album.count(3), 20);
    }

    /** "NONE: no such ones, it has not so many (the tape stays)". */
    private static void wrongPages() {
        MarginAlbum album = new MarginAlbum();
        BENCH.due("1 of an empty tape", album.pages(1, 0), -1);
        album.feed(0x01010101, 0x01010101, 0x01010000, 0, 0);
        for (int n : new int[] {0, 7, -1, LEAST, MOST, 1 << 30, 1 << 31, (1 << 30) + 1}) {
            dueNone("pages " + n, album, album.pages(n, 0));
            dueNone("pages " + n + " 1", album, album.pages(n, 1));
        }
        for (int what : new int[] {-1, 2, LEAST, MOST}) {
            dueNone("pages what " + what, album, album.pages(1, what));
            dueNone("pages NONE ahead of -2, " + what, album, album.pages(6, what));
        }
        BENCH.due("the 6th is 0", album.pages(6, 0), -2);
        BENCH.due("empty then", album.count(3), 0);
        album.feed(0x01010101, 0x01010101, 0x01010000, 0, 0);
        BENCH.due("not the 5th", album.pages(5, 0), 1);
    }

    private static void dueOffcuts(int length, int many, int bits, int... lengths) {
        String call = "offcuts " + length + " of " + java.util.Arrays.toString(lengths);
        int[] due = {many, bits};
        for (int what = 0; what < 2; what++) {
            MarginAlbum album = new MarginAlbum();
            int[] bytes = java.util.Arrays.copyOf(lengths, 20);
            Bench.feed(album, bytes);
            BENCH.due(call + " " + what, album.offcuts(lengths.length, length, what), due[what]);
            BENCH.due("empty then", album.count(3), 0);
        }
    }

    /** "1 to 8 lengths (1 to 60): edges of a frame (a length 1 to 240)", "-3: one of 0, above 60". */
    private static void lengthsOfOffcuts() {
        dueOffcuts(1, 1, 1, 1);
        dueOffcuts(60, 1, 1, 60);
        dueOffcuts(60, -3, -3, 61);
        dueOffcuts(61, -3, -3, 61);
        dueOffcuts(1, -3, -3, 0);
        dueOffcuts(1, -3, -3, 1, 0);
        dueOffcuts(1, -3, -3, 1, 61);
        dueOffcuts(1, -3, -3, 255, 1);
        dueOffcuts(2, -3, -3, 1, 1, 1, 1, 1, 1, 1, 0);
        dueOffcuts(2, -3, -3, 1, 1, 1, 1, 1, 1, 1, 61);
        dueOffcuts(8, 8, 255, 1, 1, 1, 1, 1, 1, 1, 1);
        dueOffcuts(240, 4, 15, 60, 60, 60, 60);
        dueOffcuts(240, 4, 15, 60, 60, 60, 60, 60, 60, 60, 60);
        dueOffcuts(239, -2, -2, 60, 60, 60, 60);
        dueOffcuts(240, -2, -2, 60, 60, 60, 59);
        // -3 ahead of -2
        dueOffcuts(200, -3, -3, 1, 61);
        dueOffcuts(200, -3, -3, 0);
    }

    /** "the fewest offcuts that make it just so; of like ones the least bits", "-2: none make it". */
    private static void theFewestOffcuts() {
        dueOffcuts(5, 1, 4, 2, 3, 5);
        dueOffcuts(5, 2, 3, 2, 3, 6);
        dueOffcuts(6, 2, 3, 1, 5, 2, 4);
        dueOffcuts(6, 2, 6, 7, 5, 1, 2, 4);
        dueOffcuts(7, 1, 1, 7, 7, 7);
        dueOffcuts(9, 2, 3, 4, 5, 4, 5);
        dueOffcuts(9, 3, 7, 2, 3, 4, 2, 4);
        dueOffcuts(10, 1, 128, 1, 2, 3, 4, 5, 6, 7, 10);
        dueOffcuts(8, 2, 128 + 1, 1, 2, 2, 3, 9, 9, 9, 7);
        dueOffcuts(3, -2, -2, 4);
        dueOffcuts(5, -2, -2, 4);
        dueOffcuts(8, -2, -2, 3, 3, 3);
        dueOffcuts(36, 8, 255, 1, 2, 3, 4, 5, 6, 7, 8);
        dueOffcuts(37, -2, -2, 1, 2, 3, 4, 5, 6, 7, 8);
    }

    /** "NONE: no such ones, it has not so many (the tape stays)". */
    private static void wrongOffcuts() {
        MarginAlbum album = new MarginAlbum();
        BENCH.due("1 of an empty tape", album.offcuts(1, 5, 0), -1);
        album.feed(0x05000000, 0, 0, 0, 0);
        for (int n : new int[] {0, 9, -1, LEAST, MOST}) {
            dueNone("offcuts " + n, album, album.offcuts(n, 5, 0));
        }
        for (int length : new int[] {0, 241, -1, LEAST, MOST}) {
            dueNone("offcuts length " + length, album, album.offcuts(1, length, 0));
            dueNone("offcuts NONE ahead of -3, " + length, album, album.offcuts(8, length, 1));
        }
        for (int what : new int[] {-1, 2, LEAST, MOST}) {
            dueNone("offcuts what " + what, album, album.offcuts(1, 5, what));
        }
        BENCH.due("1 of 20 bytes", album.offcuts(1, 5, 1), 1);
        album.feed(0x05000000, 0, 0, 0, 0);
        BENCH.due("2 of 20 bytes", album.offcuts(2, 5, 1), -3);
        BENCH.due("empty by -3", album.count(3), 0);
        album.feed(0x05000000, 0, 0, 0, 0);
        BENCH.due("length 240", album.offcuts(1, 240, 1), -2);
        BENCH.due("empty by -2", album.count(3), 0);
    }

    /** "FOLD: a strip halved 1 to 4 times", "NONE: no such n". */
    private static void fold() {
        MarginAlbum album = new MarginAlbum();
        Bench.feed(album, 1);
        String[] strips = {"", "v", "vvm", "vvmvvmm", "vvmvvmmvvvmmvmm"};
        for (int n = 1; n <= 4; n++) {
            for (int i = 0; i < 15; i++) {
                int due = i < strips[n].length() && strips[n].charAt(i) == 'v' ? 1 : 0;
                BENCH.due("fold " + n + ", crease " + i, album.fold(n) >> i & 1, due);
            }
            BENCH.due("fold " + n + " has no more", album.fold(n) >> strips[n].length(), 0);
        }
        for (int n : new int[] {0, 5, -1, LEAST, MOST}) {
            BENCH.due("fold " + n, album.fold(n), -1);
        }
        BENCH.due("no tape is asked", album.count(3), 20);
    }

    private static void dueTold(int[] due, int persons, int n, int... bytes) {
        for (int what = 0; what < 3; what++) {
            MarginAlbum album = new MarginAlbum();
            // what is behind is not read
            int[] more = java.util.Arrays.copyOf(bytes, (bytes.length + 20) / 20 * 20);
            java.util.Arrays.fill(more, bytes.length, more.length, 255);
            Bench.feed(album, more);
            String call = "told " + n + ", " + persons + ", " + what + " by " + java.util.Arrays.toString(bytes);
            BENCH.due(call, album.told(n, bytes.length / 2 - n, persons, what), due[what]);
            BENCH.due("empty then", album.count(3), 0);
        }
    }

    private static int[] due(int could, int fewest, int which) {
        return new int[] {could, fewest, which};
    }

    /** "CUTS (of each who showed, bits) which of some PERSONS could be PAINFUL: those who showed in none". */
    private static void whoCouldBePainful() {
        dueTold(due(65535, 0, 0), 65535, 1, 0, 0);
        dueTold(due(0, 0, 0), 65535, 1, 255, 255);
        dueTold(due(0, 0, 0), 0, 1, 0, 0);
        dueTold(due(65534, 0, 0), 65535, 1, 0, 1);
        dueTold(due(32767, 0, 0), 65535, 1, 128, 0);
        dueTold(due(65535 - 256, 0, 0), 65535, 1, 1, 0);
        dueTold(due(65535 - 128, 0, 0), 65535, 1, 0, 128);
        dueTold(due(32766, 0, 0), 65535, 2, 128, 0, 0, 1);
        dueTold(due(6, 0, 0), 7, 1, 0, 9);
        int[] twelve = new int[24];
        for (int i = 0; i < 12; i++) {
            twelve[2 * i + (i < 8 ? 1 : 0)] = 1 << i % 8;
        }
        dueTold(due(0xf000, 0, 0), 65535, 12, twelve);
    }

    /** "-3: a two of no such PERSONS", ahead of -2. */
    private static void twosOfPersons() {
        dueTold(due(65535, 1, 1), 65535, 1, 0, 0, 0, 15);
        dueTold(due(65535, 1, 1), 65535, 1, 0, 0, 15, 0);
        dueTold(due(-3, -3, -3), 65535, 1, 0, 0, 0, 16);
        dueTold(due(-3, -3, -3), 65535, 1, 0, 0, 16, 0);
        dueTold(due(-3, -3, -3), 65535, 1, 0, 0, 255, 0);
        dueTold(due(-3, -3, -3), 65535, 1, 0, 0, 0, 1, 2, 3, 4, 16);
        dueTold(due(-3, -3, -3), 0, 1, 0, 0, 0, 1, 16, 1);
        dueTold(due(65535, 10, 1023), 65535, 1, 0, 0, 0, 0, 1, 1, 2, 2, 3, 3, 4, 4, 5, 5, 6, 6, 7, 7, 8, 8, 9, 9);
        dueTold(due(-3, -3, -3), 65535, 1, 0, 0, 0, 0, 1, 1, 2, 2, 3, 3, 4, 4, 5, 5, 6, 6, 7, 7, 8, 8, 9, 16);
        // bytes of CUTS are bits: 16 and more are right there
        dueTold(due(65535 - 0x10ff, 0, 0), 65535, 1, 16, 255);
    }

    /** "the fewest PERSONS that could be so that it is so; of like ones the least bits", "-2 (of 1, 2): they can't". */
    private static void theFewestThatExplain() {
        dueTold(due(65535, 1, 2), 65535, 1, 0, 0, 1, 2);
        dueTold(due(65535, 1, 2), 65535, 1, 0, 0, 2, 1);
        dueTold(due(65533, 1, 4), 65535, 1, 0, 2, 1, 2);
        dueTold(due(65535, 1, 4), 65535, 1, 0, 0, 1, 2, 2, 3);
        dueTold(due(65535, 2, 3), 65535, 1, 0, 0, 0, 1, 1, 2, 2, 0);
        dueTold(due(65535, 2, 5), 65535, 1, 0, 0, 0, 1, 2, 3);
        dueTold(due(65534, 2, 6), 65535, 1, 0, 1, 0, 1, 2, 3);
        dueTold(due(65531, 2, 9), 65535, 1, 0, 4, 0, 1, 2, 3);
        dueTold(due(65535, 1, 32768), 65535, 1, 0, 0, 15, 1, 15, 2, 15, 3, 15, 4);
        dueTold(due(65532, -2, -2), 65535, 1, 0, 3, 0, 1);
        dueTold(due(65532, -2, -2), 65535, 1, 0, 3, 2, 3, 0, 1);
        dueTold(due(4, -2, -2), 4, 1, 0, 0, 0, 1);
        dueTold(due(0, -2, -2), 0, 1, 0, 0, 0, 1);
        dueTold(due(0, 0, 0), 0, 1, 0, 0);
        dueTold(due(65535, 1, 8), 65535, 1, 0, 0, 3, 3);
        dueTold(due(65535, 2, 512 + 1), 65535, 1, 0, 0, 0, 9, 1, 9, 2, 9, 3, 9, 4, 9, 5, 9, 6, 9, 7, 9, 8, 9, 0, 1);
    }

    /** "n 1 to 12, m 0 to 10", "NONE: no such ones, it has not so many (the tape stays)". */
    private static void wrongTold() {
        MarginAlbum album = new MarginAlbum();
        BENCH.due("of an empty tape", album.told(1, 0, 1, 0), -1);
        album.feed(0, 0, 0, 0, 0);
        int[][] calls = {{0, 0, 1, 0}, {13, 0, 1, 0}, {-1, 0, 1, 0}, {1, -1, 1, 0}, {1, 11, 1, 0}, {1, 0, -1, 0},
            {1, 0, 65536, 0}, {1, 0, 1, -1}, {1, 0, 1, 3}, {1, 10, 1, 0}, {10, 1, 1, 0}, {11, 0, 1, 0}, {12, 0, 1, 0},
            {6, 5, 1, 0}, {LEAST, 0, 1, 0}, {MOST, 0, 1, 0}, {1, LEAST, 1, 0}, {1, MOST, 1, 0}, {1, 0, LEAST, 0},
            {1, 0, MOST, 0}, {1, 0, 1, LEAST}, {1, 0, 1, MOST}, {1 << 30, 1 << 30, 1, 0}, {0, 1, 1, 0}};
        for (int[] call : calls) {
            dueNone("told " + java.util.Arrays.toString(call), album, album.told(call[0], call[1], call[2], call[3]));
        }
        BENCH.due("10 of 20 bytes", album.told(10, 0, 65535, 0), 65535);
        for (int m = 1; m <= 9; m++) {
            album.feed(0, 0, 0, 0, 0);
            for (int n = 11 - m; n <= 12; n++) {
                dueNone("told " + n + " " + m + " by 20 bytes", album, album.told(n, m, 1, 2));
            }
            BENCH.due("told " + (10 - m) + " " + m + " by 20 bytes", album.told(10 - m, m, 1, 2), 1);
            BENCH.due("empty then", album.count(3), 0);
        }
        Bench.feed(album, new int[60]);
        int[][] more = {{13, 0}, {12, 11}, {13, 10}, {1, 11}};
        for (int[] call : more) {
            BENCH.due("told " + call[0] + " " + call[1] + " of 60", album.told(call[0], call[1], 1, 0), -1);
            BENCH.due("the tape stays", album.count(3), 60);
        }
        BENCH.due("12 and 10 of 60", album.told(12, 10, 1, 2), 1);
        int[] wrongTwo = {0, 0, 0, 16, 0, 0, 0, 0, 0, 0, 0, 0, 0, 0, 0, 0, 0, 0, 0, 0};
        Bench.feed(album, wrongTwo);
        dueNone("NONE ahead of -3", album, album.told(1, 1, 65536, 0));
        dueNone("NONE ahead of -3, what 3", album, album.told(1, 1, 1, 3));
        BENCH.due("-3", album.told(1, 1, 0, 1), -3);
        BENCH.due("empty by -3", album.count(3), 0);
    }

    private static void dueFrames(int straight, int turned, int... sizes) {
        String call = "frames " + java.util.Arrays.toString(sizes);
        for (int turn = 0; turn < 2; turn++) {
            MarginAlbum album = new MarginAlbum();
            int[] bytes = java.util.Arrays.copyOf(sizes, 20);
            Bench.feed(album, bytes);
            BENCH.due(call + " " + turn, album.frames(sizes.length / 2, turn == 1), turn == 1 ? turned : straight);
            BENCH.due("empty then", album.count(3), 0);
        }
    }

    /** "FRAMES: 1 to 10 (so wide, so high, 1 to 255)", "-2: one of 0". */
    private static void sizesOfFrames() {
        dueFrames(1, 1, 1, 1);
        dueFrames(1, 1, 255, 255);
        dueFrames(1, 1, 1, 255);
        dueFrames(2, 2, 254, 254, 255, 255);
        dueFrames(2, 2, 1, 1, 255, 255);
        dueFrames(-2, -2, 0, 1);
        dueFrames(-2, -2, 1, 0);
        dueFrames(-2, -2, 0, 0);
        dueFrames(-2, -2, 5, 5, 4, 0);
        dueFrames(-2, -2, 1, 1, 2, 2, 3, 3, 4, 4, 5, 5, 6, 6, 7, 7, 8, 8, 9, 9, 0, 10);
        dueFrames(-2, -2, 1, 1, 2, 2, 3, 3, 4, 4, 5, 5, 6, 6, 7, 7, 8, 8, 9, 9, 10, 0);
        dueFrames(10, 10, 1, 1, 2, 2, 3, 3, 4, 4, 5, 5, 6, 6, 7, 7, 8, 8, 9, 9, 10, 10);
        dueFrames(10, 10, 10, 10, 9, 9, 8, 8, 7, 7, 6, 6, 5, 5, 4, 4, 3, 3, 2, 2, 1, 1);
        dueFrames(1, 1, 3, 3, 3, 3, 3, 3, 3, 3, 3, 3, 3, 3, 3, 3, 3, 3, 3, 3, 3, 3);
    }

    /** "one goes into another one if it is narrower and lower". */
    private static void narrowerAndLower() {
        dueFrames(2, 2, 4, 4, 5, 5);
        dueFrames(2, 2, 5, 5, 4, 4);
        dueFrames(1, 1, 5, 5, 5, 5);
        dueFrames(1, 1, 4, 5, 5, 5);
        dueFrames(1, 1, 5, 4, 5, 5);
        dueFrames(1, 1, 4, 6, 5, 5);
        dueFrames(1, 1, 6, 4, 5, 5);
        dueFrames(3, 3, 9, 9, 1, 1, 5, 5);
        dueFrames(2, 2, 1, 1, 5, 9, 6, 8);
        dueFrames(3, 3, 1, 1, 9, 9, 2, 7, 3, 5);
        dueFrames(4, 4, 7, 7, 2, 2, 9, 9, 4, 4, 4, 8);
    }

    /** "(or so when turned, if turning is allowed)". */
    private static void orSoWhenTurned() {
        dueFrames(1, 2, 3, 9, 10, 4);
        dueFrames(1, 2, 10, 4, 3, 9);
        dueFrames(1, 1, 3, 9, 9, 4);
        dueFrames(1, 1, 4, 9, 10, 4);
        dueFrames(1, 1, 3, 10, 10, 4);
        dueFrames(2, 3, 3, 9, 10, 4, 2, 2);
        dueFrames(3, 4, 20, 3, 4, 21, 22, 5, 19, 2);
        dueFrames(2, 2, 2, 8, 3, 9);
        dueFrames(2, 3, 1, 9, 10, 2, 3, 11);
    }

    /** Only the first 2 n bytes are frames, whatever was told before. */
    private static void framesAgain() {
        MarginAlbum album = new MarginAlbum();
        int[][] rows = {{10, 10, 9, 9, 8, 8, 7, 7, 6, 6, 5, 5, 4, 4, 3, 3, 2, 2, 1, 1}, {5, 5}, {11, 11, 12, 12}, {5, 5, 5, 5},
            {20, 20, 1, 30, 1, 30}, {1, 1}};
        int[] due = {10, 1, 2, 1, 1, 1};
        for (int i = 0; i < rows.length; i++) {
            Bench.feed(album, rows[i]);
            BENCH.due("frames again " + i, album.frames(rows[i].length / 2, i % 2 == 1), due[i]);
        }
    }

    /** "n 1 to 10", "NONE: no such n, it has not so many (the tape stays)". */
    private static void wrongFrames() {
        MarginAlbum album = new MarginAlbum();
        BENCH.due("1 of an empty tape", album.frames(1, true), -1);
        album.feed(0x01020304, 0, 0, 0, 0);
        for (int n : new int[] {0, 11, -1, LEAST, MOST, 1 << 30, 1 << 31, (1 << 30) + 1}) {
            dueNone("frames " + n, album, album.frames(n, false));
            dueNone("frames " + n + " turned", album, album.frames(n, true));
        }
        BENCH.due("2 of 20 bytes", album.frames(2, false), 2);
        album.feed(0x01020304, 0, 0, 0, 0);
        BENCH.due("3 of 20 bytes", album.frames(3, false), -2);
        BENCH.due("empty by -2", album.count(3), 0);
        int[] bytes = new int[40];
        java.util.Arrays.fill(bytes, 1);
        Bench.feed(album, bytes);
        BENCH.due("11 of 40", album.frames(11, false), -1);
        BENCH.due("the tape stays", album.count(3), 40);
        BENCH.due("10 of 40", album.frames(10, false), 1);
    }

    private static MarginAlbum pained() {
        MarginAlbum album = new MarginAlbum();
        for (int p = 0; p < 16; p++) {
            album.pain(p, 99 - p);
        }
        return album;
    }

    /** "CHECK by the first n bytes of the tape (0 to 16; empty then): NONE: right; else the first that is not so". */
    private static void check() {
        for (int n = 0; n <= 16; n++) {
            for (int wrong = 0; wrong < 16; wrong++) {
                MarginAlbum album = pained();
                int[] bytes = new int[20];
                for (int p = 0; p < 16; p++) {
                    bytes[p] = 99 - p;
                }
                bytes[wrong]++;
                bytes[15] += wrong < 15 ? 100 : 0;
                Bench.feed(album, bytes);
                BENCH.due("check " + n + ", " + wrong + " is wrong", album.check(n), wrong < n ? wrong : -1);
                BENCH.due("empty then", album.count(3), 0);
            }
        }
        MarginAlbum album = pained();
        BENCH.due("check 0 of an empty tape", album.check(0), -1);
        album.feed(0x63626160, 0x5f5e5d5c, 0x5b5a5958, 0x57565554, 0);
        BENCH.due("all are right", album.check(16), -1);
        album.feed(0x62626160, 0x5f5e5d5c, 0x5b5a5958, 0x57565554, 0);
        BENCH.due("one less", album.check(16), 0);
        BENCH.due("pain stays", album.personIs(0, 0), 99);
    }

    /** "-2: no such n, it has not so many (the tape stays)". */
    private static void wrongCheck() {
        MarginAlbum album = pained();
        for (int n : new int[] {1, 16, 17, -1}) {
            BENCH.due("check " + n + " of an empty tape", album.check(n), -2);
        }
        album.feed(0x63626160, 0x5f5e5d5c, 0x5b5a5958, 0x57565554, 0);
        for (int n : new int[] {-1, 17, 20, 21, LEAST, MOST}) {
            BENCH.due("check " + n, album.check(n), -2);
            BENCH.due("the tape stays by " + n, album.count(3), 20);
        }
        BENCH.due("check 16", album.check(16), -1);
    }
}
