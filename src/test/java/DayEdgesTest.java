/** "A DAY", "DRAWS", "TRIED", the album, "KEPT": on both sides of each boundary; promises 9, 10, 21, 27 to 29, 31. */
public final class DayEdgesTest {
    private static final Bench BENCH = new Bench("DayEdgesTest");

    public static void main(String[] args) {
        painIsMoreAndLess();
        withoutThePainful();
        theTopRowIsLost();
        aCutOfOneRow();
        noCut();
        whoShowedWhole();
        theDrawsOfX();
        theSeed();
        oneTo30Days();
        asManyAsCan();
        triedOnes();
        nothingIsChangedByTriedOnes();
        theCutsOfTheAlbum();
        thirtyAreRemembered();
        keptAndUndone();
        theAlbumUndone();
        countedThings();
        BENCH.end();
    }

    private static void dueParts(String of, MarginAlbum album, int i, int... parts) {
        for (int what = 0; what < 6; what++) {
            BENCH.due(of + ": cut of " + i + " days ago, " + what, album.album(i, what), parts[what]);
        }
    }

    /** "(1) each PERSON, by numbers: PAIN is more by w, less by l (both asked ahead; 0 to 99)". */
    private static void painIsMoreAndLess() {
        int[][] rows = {{0, 0, 0}, {0, 99, 99}, {1, 99, 99}, {99, 0, 99}, {99, 99, 99}, {50, 49, 99}, {50, 50, 99}};
        for (int[] row : rows) {
            MarginAlbum album = new MarginAlbum();
            album.pain(15, row[0]);
            Bench.law(album, "w" + row[1] + "(p=15)");
            album.days(1);
            BENCH.due("pain " + row[0] + " more by " + row[1], album.personIs(15, 0), row[2]);
            BENCH.due("no other's", album.count(6), row[2]);
        }
        int[][] less = {{0, 0, 0}, {0, 1, 0}, {99, 99, 0}, {98, 99, 0}, {99, 98, 1}, {50, 1, 49}};
        for (int[] row : less) {
            MarginAlbum album = new MarginAlbum();
            album.pain(0, row[0]);
            Bench.law(album, "l" + row[1] + "(1=1)");
            album.days(1);
            BENCH.due("pain " + row[0] + " less by " + row[1], album.personIs(0, 0), row[2]);
        }
    }

    /** "(2) The PRINT is CUT without those who are PAINFUL .. (asked then)". */
    private static void withoutThePainful() {
        MarginAlbum album = Bench.printed("a0,0:8x12;p8,0:8x12");
        album.pain(0, 50);
        BENCH.due("at the bound", album.days(1), 192);
        album.pain(0, 51);
        BENCH.due("above it", album.days(1), 96);
        album.bound(51);
        BENCH.due("at another bound", album.days(1), 192);
        Bench.law(album, "w1(p=0)");
        BENCH.due("above it by what grew that day", album.days(1), 96);
        Bench.law(album, "l1(p=0)");
        BENCH.due("at it by what faded that day", album.days(1), 192);
        album.bound(99);
        album.pain(0, 99);
        album.pain(15, 99);
        Bench.law(album, "w0(1=1)");
        BENCH.due("nobody is above 99", album.days(1), 192);
        album.bound(98);
        BENCH.due("everybody is covered", album.days(1), 0);
        album.bound(0);
        album.pain(0, 0);
        album.pain(15, 1);
        BENCH.due("above 0", album.days(1), 96);
        BENCH.due("who showed then", album.album(1, 4), 1);
    }

    /** "With a DRAW below h the hand slips: the top row of the CUT is lost, if that is higher than one". */
    private static void theTopRowIsLost() {
        MarginAlbum album = Bench.printed("a0,0:1x1;b0,1:1x1;c0,0:1x2;d15,11:1x1;d3,0:1x1");
        Bench.law(album, "h10(1=1)");
        BENCH.due("11 rows of 12", album.days(1), 176);
        dueParts("of the whole print", album, 1, 0, 1, 16, 11, 2 + 8, 1);
        album.pain(4, 60);
        Bench.print(album, "e0,0:16x7;e0,9:16x3;a2,7:1x1;b2,8:1x1");
        BENCH.due("one row of two", album.days(1), 16);
        dueParts("of two rows", album, 1, 0, 8, 16, 1, 2, 1);
        Bench.law(album, "h0(1=1)");
        BENCH.due("no slip", album.days(1), 32);
        dueParts("without a slip", album, 1, 0, 7, 16, 2, 3, 0);
    }

    /** "(it slips, too, where there is no CUT or one of one row)". */
    private static void aCutOfOneRow() {
        MarginAlbum album = Bench.printed("e0,1:16x11;a3,0:2x1");
        album.pain(4, 60);
        Bench.law(album, "h10(1=1)");
        BENCH.due("tried: slips", album.tried(1, 1), 1);
        BENCH.due("tried: cells", album.tried(1, 2), 16);
        BENCH.due("the row stays", album.days(1), 16);
        dueParts("of one row", album, 1, 0, 0, 16, 1, 1, 1);
    }

    /** "(3) The album has a CUT more (of 0 CELLS, if there is none)". */
    private static void noCut() {
        MarginAlbum album = Bench.printed("e0,0:16x12;a3,0:2x1");
        album.pain(4, 60);
        BENCH.due("no cells", album.days(1), 0);
        dueParts("without a slip", album, 1, 0, 0, 0, 0, 0, 0);
        Bench.law(album, "h10(1=1)");
        BENCH.due("tried: slips", album.tried(3, 1), 3);
        BENCH.due("tried: who showed", album.tried(1, 3), 0);
        BENCH.due("tried: cells of the last", album.tried(1, 2), 0);
        BENCH.due("no cells again", album.days(1), 0);
        dueParts("with a slip", album, 1, 0, 0, 0, 0, 0, 1);
        BENCH.due("two cuts", album.count(5), 2);
        BENCH.due("two days", album.count(0), 2);
        BENCH.due("nobody showed", album.personIs(0, 3), 0);
        BENCH.due("never", album.personIs(0, 4), 99);
        album.pain(4, 0);
        album.days(1);
        BENCH.due("a cut again", album.album(1, 2), 16);
        BENCH.due("and none before", album.album(2, 2), 0);
    }

    /** "each PERSON of whom a FIGURE lies in it wholly showed whole in it". */
    private static void whoShowedWhole() {
        MarginAlbum album = Bench.printed("e0,0:6x12;a6,0:1x1;b5,3:2x2;c15,11:1x1;d6,0:10x12;b0,9:1x1;f0,1:2x2;f8,8:2x2");
        album.pain(4, 51);
        BENCH.due("cells", album.days(1), 120);
        dueParts("to the right", album, 1, 6, 0, 10, 12, 1 + 4 + 8 + 32, 0);
        int[] shown = {1, 0, 1, 1, 0, 1};
        for (int p = 0; p < 6; p++) {
            BENCH.due("in how many, " + p, album.personIs(p, 3), shown[p]);
            BENCH.due("how many days ago, " + p, album.personIs(p, 4), shown[p] == 1 ? 1 : 99);
        }
        Bench.edits(album, "#0!");
        album.days(1);
        for (int p = 0; p < 6; p++) {
            BENCH.due("then in how many, " + p, album.personIs(p, 3), p == 4 ? 0 : shown[p] + 1);
        }
        BENCH.due("all in the last", album.album(1, 4), 1 + 2 + 4 + 8 + 32);
        Bench.print(album, "e0,0:15x12;e15,1:1x11;a15,0:1x1;b15,0:1x2");
        BENCH.due("one cell", album.days(1), 1);
        dueParts("of one cell", album, 1, 15, 0, 1, 1, 1, 0);
        BENCH.due("tried: who showed in one cell", album.tried(1, 3), 1);
    }

    /** "DRAWS: X = (25173 X + 13849) modulo 65536 (X is THE SEED at first, 1): X modulo 10". */
    private static void theDrawsOfX() {
        MarginAlbum album = new MarginAlbum();
        BENCH.due("x at first", album.count(4), 1);
        album.days(1);
        BENCH.due("x of the first day", album.count(4), 39022);
        album.days(1);
        BENCH.due("x of the second day", album.count(4), 61087);
        album.days(30);
        long x = 1;
        for (int i = 0; i < 32; i++) {
            x = (25173 * x + 13849) % 65536;
        }
        BENCH.due("x of the 32nd day", album.count(4), x);
        // one draw a DAY, whether there is an h or a CUT or not
        Bench.law(album, "h10(1=1)");
        album.seed(1);
        album.days(1);
        BENCH.due("x with an h", album.count(4), 39022);
        Bench.law(album, "h0(1=1);h5(1=1)");
        album.days(1);
        BENCH.due("x with an h of 0", album.count(4), 61087);
        Bench.print(album, "a0,0:16x12");
        album.pain(0, 99);
        album.seed(1);
        album.days(1);
        BENCH.due("x without a cut", album.count(4), 39022);
        // 39022, 61087: 2 and 7
        MarginAlbum drawn = new MarginAlbum();
        Bench.law(drawn, "h2(1=1)");
        BENCH.due("2 is not below 2", drawn.tried(1, 1), 0);
        Bench.law(drawn, "h3(1=1)");
        BENCH.due("2 is below 3", drawn.tried(1, 1), 1);
        Bench.law(drawn, "h7(d=1)");
        BENCH.due("7 is not below 7", drawn.tried(2, 1), 0);
        Bench.law(drawn, "h8(d=1)");
        BENCH.due("7 is below 8", drawn.tried(2, 1), 1);
    }

    /** "THE SEED (0 to 65535; X, too): true; false: no such number". */
    private static void theSeed() {
        MarginAlbum album = new MarginAlbum();
        int[] seeds = {0, 1, 2, 65534, 65535};
        int[] next = {13849, 39022, 64195, (int) ((25173L * 65534 + 13849) % 65536), 13849 - 25173 + 65536};
        for (int i = 0; i < seeds.length; i++) {
            BENCH.due("seed " + seeds[i], album.seed(seeds[i]), true);
            BENCH.due("x", album.count(4), seeds[i]);
            album.days(1);
            BENCH.due("x after " + seeds[i], album.count(4), next[i]);
        }
        album.seed(4);
        for (int wrong : new int[] {-1, 65536, Integer.MIN_VALUE, Integer.MAX_VALUE}) {
            BENCH.due("seed " + wrong, album.seed(wrong), false);
            BENCH.due("x stays", album.count(4), 4);
        }
    }

    /** "DAYS (1 to 30; as many as can) go by: CELLS of all CUTS in them; NONE: no such n". */
    private static void oneTo30Days() {
        MarginAlbum album = Bench.printed("a0,0:8x12");
        Bench.law(album, "w51(d=3&p=0)");
        BENCH.due("1 day", album.days(1), 192);
        BENCH.due("the day", album.count(0), 1);
        BENCH.due("4 days", album.days(4), 192 + 192 + 96 + 96);
        BENCH.due("the day", album.count(0), 5);
        BENCH.due("30 days", album.days(30), 30 * 96);
        BENCH.due("the day", album.count(0), 35);
        for (int n : new int[] {0, -1, 31, Integer.MIN_VALUE, Integer.MAX_VALUE}) {
            BENCH.due("days " + n, album.days(n), -1);
            BENCH.due("no day by " + n, album.count(0), 35);
        }
    }

    /** "THE DAY is one more (9999 at most: then none goes by)". */
    private static void asManyAsCan() {
        MarginAlbum album = Bench.printed("a0,0:8x12");
        for (int day = 0; day < 9990; day += 30) {
            album.days(30);
        }
        BENCH.due("the day", album.count(0), 9990);
        BENCH.due("8 days", album.days(8), 8 * 192);
        Bench.law(album, "w3(p=1);h10(1=1)");
        BENCH.due("tried: one is left", album.tried(30, 0), 176);
        BENCH.due("tried: its slip", album.tried(2, 1), 1);
        BENCH.due("tried: its pain", album.tried(30, 11), 3);
        BENCH.due("d is 98", dayOfLaw(album), 98);
        Bench.law(album, "w3(p=1);h10(1=1)");
        int x = (int) ((25173L * album.count(4) + 13849) % 65536);
        BENCH.due("one goes by", album.days(2), 176);
        BENCH.due("the last day", album.count(0), 9999);
        BENCH.due("all cuts are counted", album.count(5), 9999);
        BENCH.due("one draw", album.count(4), x);
        BENCH.due("pain of one day", album.personIs(1, 0), 3);
        BENCH.due("the last cut", album.album(1, 3), 11);
        BENCH.due("the cut ahead of it", album.album(2, 3), 12);
        BENCH.due("none goes by", album.days(1), 0);
        BENCH.due("none of 30", album.days(30), 0);
        BENCH.due("days 31 still", album.days(31), -1);
        BENCH.due("the last day stays", album.count(0), 9999);
        BENCH.due("no draw", album.count(4), x);
        BENCH.due("no pain", album.personIs(1, 0), 3);
        BENCH.due("no cut", album.album(2, 3), 12);
        int[] none = {0, 0, 0, 0};
        for (int what = 0; what < 4; what++) {
            BENCH.due("tried when none goes by, " + what, album.tried(1, what), none[what]);
        }
        BENCH.due("pain when none goes by", album.tried(30, 11), 3);
        BENCH.due("tried 31 still", album.tried(31, 0), -1);
        BENCH.due("in all but the one that slipped", album.personIs(0, 3), 9998);
        BENCH.due("two days ago", album.personIs(0, 4), 2);
    }

    private static int dayOfLaw(MarginAlbum album) {
        Bench.law(album, "wd(p=9)");
        return album.tried(1, 19);
    }

    /** "DAYS (1 to 30) that are tried, what 0 .. 3, 10 + p; NONE: no such ones". */
    private static void triedOnes() {
        MarginAlbum album = Bench.printed("a0,0:8x12;p8,0:8x12;b15,11:1x1");
        Bench.law(album, "w26(p=0);h10(d=1);w5(p=15)");
        BENCH.due("cells of one", album.tried(1, 0), 192);
        BENCH.due("cells of two", album.tried(2, 0), 192 + 88);
        BENCH.due("cells of three", album.tried(3, 0), 192 + 88 + 96);
        BENCH.due("cells of thirty", album.tried(30, 0) > 192 + 88 + 96, true);
        int[] slips = {0, 1, 1};
        int[] last = {192, 88, 96};
        int[] whole = {1 + 2 + 32768, 2, 2 + 32768};
        for (int n = 1; n <= 3; n++) {
            BENCH.due("slips of " + n, album.tried(n, 1), slips[n - 1]);
            BENCH.due("cells of the last of " + n, album.tried(n, 2), last[n - 1]);
            BENCH.due("who showed in the last of " + n, album.tried(n, 3), whole[n - 1]);
            BENCH.due("pain of a, " + n, album.tried(n, 10), 26 * n);
            BENCH.due("pain of p, " + n, album.tried(n, 25), 5 * n);
            BENCH.due("pain of o, " + n, album.tried(n, 24), 0);
        }
        for (int n : new int[] {0, -1, 31, Integer.MIN_VALUE, Integer.MAX_VALUE}) {
            BENCH.due("tried " + n, album.tried(n, 0), -1);
        }
        for (int what : new int[] {-1, 4, 9, 26, Integer.MIN_VALUE, Integer.MAX_VALUE}) {
            BENCH.due("tried what " + what, album.tried(1, what), -1);
        }
    }

    /** "TRIED are n DAYS by the DRAWS that will come (nothing is changed)". */
    private static void nothingIsChangedByTriedOnes() {
        MarginAlbum album = Bench.printed("a0,0:8x12;p8,0:8x12");
        Bench.law(album, "w13(p=0);h5(1=1);c(s>3&p=15)");
        album.pain(0, 1);
        album.days(2);
        album.keep();
        int x = album.count(4);
        for (int what : new int[] {0, 1, 2, 3, 10, 25}) {
            album.tried(30, what);
        }
        BENCH.due("x", album.count(4), x);
        BENCH.due("the day", album.count(0), 2);
        BENCH.due("the cuts", album.count(5), 2);
        BENCH.due("pain", album.count(6), 27);
        BENCH.due("no cut of 3 days ago", album.album(3, 0), -2);
        BENCH.due("in how many", album.personIs(0, 3), 2 - album.album(1, 5) - album.album(2, 5));
        int cells = album.tried(7, 0);
        int slips = album.tried(7, 1);
        int last = album.tried(7, 2);
        int whole = album.tried(7, 3);
        int pain = album.tried(7, 10);
        BENCH.due("then they come: cells", album.days(7), cells);
        int slipped = 0;
        for (int i = 1; i <= 7; i++) {
            slipped += album.album(i, 5);
        }
        BENCH.due("then they come: slips", slipped, slips);
        BENCH.due("then they come: the last", album.album(1, 2) * album.album(1, 3), last);
        BENCH.due("then they come: who showed", album.album(1, 4), whole);
        BENCH.due("then they come: pain", album.personIs(0, 0), pain);
    }

    /** "Of the CUT of i DAYS ago in the album (1: the last one; to 30) .. -2: there is none; NONE: no such ones". */
    private static void theCutsOfTheAlbum() {
        MarginAlbum album = Bench.printed("a0,0:8x12;p8,0:8x12");
        for (int i : new int[] {1, 2, 30}) {
            for (int what = 0; what < 6; what++) {
                BENCH.due("there is none", album.album(i, what), -2);
            }
        }
        album.days(1);
        BENCH.due("there is one", album.album(1, 2), 16);
        BENCH.due("not two", album.album(2, 2), -2);
        Bench.law(album, "h10(1=1);c(p=0)");
        album.days(1);
        dueParts("last", album, 1, 8, 1, 8, 11, 0, 1);
        dueParts("ahead of it", album, 2, 0, 0, 16, 12, 1 + 32768, 0);
        for (int i : new int[] {0, -1, 31, Integer.MIN_VALUE, Integer.MAX_VALUE}) {
            BENCH.due("album " + i, album.album(i, 0), -1);
        }
        for (int what : new int[] {-1, 6, Integer.MIN_VALUE, Integer.MAX_VALUE}) {
            BENCH.due("album 1 " + what, album.album(1, what), -1);
            BENCH.due("NONE ahead of -2, " + what, album.album(30, what), -1);
        }
        BENCH.due("none of 31 days ago", album.album(31, 6), -1);
    }

    /** "(30 at most are remembered; all are counted)". */
    private static void thirtyAreRemembered() {
        MarginAlbum album = Bench.printed("a0,0:1x1");
        Bench.law(album, "c(p=0&d=0)");
        album.days(29);
        BENCH.due("the first of 29", album.album(29, 4), 0);
        BENCH.due("the second of 29", album.album(28, 4), 1);
        BENCH.due("there is no 30th", album.album(30, 4), -2);
        album.days(1);
        BENCH.due("the first of 30", album.album(30, 4), 0);
        BENCH.due("the second of 30", album.album(29, 4), 1);
        BENCH.due("30 are counted", album.count(5), 30);
        album.days(1);
        BENCH.due("the second of 31", album.album(30, 4), 1);
        BENCH.due("31 are counted", album.count(5), 31);
        BENCH.due("31 days ago is no such one", album.album(31, 4), -1);
        BENCH.due("in all but one", album.personIs(0, 3), 30);
        Bench.law(album, "c(p=0&d=31)");
        album.days(1);
        BENCH.due("the last of 32", album.album(1, 4), 0);
        BENCH.due("the one ahead", album.album(2, 4), 1);
        album.days(29);
        BENCH.due("30 days ago", album.album(30, 4), 0);
        BENCH.due("29 days ago", album.album(29, 4), 1);
        album.days(1);
        BENCH.due("it is not remembered", album.album(30, 4), 1);
        BENCH.due("but counted", album.count(5), 62);
        BENCH.due("in all but two", album.personIs(0, 3), 60);
    }

    /** "KEPT: FIGURES, PAIN, the album, THE DAY, X; UNDONE: as they were KEPT last". */
    private static void keptAndUndone() {
        MarginAlbum album = Bench.printed("a1,2:3x4;p15,11:1x1");
        album.pain(3, 33);
        album.days(1);
        BENCH.due("none was kept", album.undo(), false);
        BENCH.due("figures stay", album.printIs(1), 3);
        BENCH.due("pain stays", album.personIs(3, 0), 33);
        BENCH.due("the day stays", album.count(0), 1);
        BENCH.due("keep", album.keep(), 1);
        BENCH.due("keep again", album.keep(), 1);
        Bench.edits(album, "#0>;#1!;d+5;e+6");
        album.mirror();
        album.seed(9);
        album.bound(7);
        Bench.law(album, "w1(1=1)");
        album.days(2);
        Bench.feed(album, 1, 2, 3);
        BENCH.due("undo", album.undo(), true);
        BENCH.due("figures", album.printIs(1), 3);
        int[] parts = {0, 1, 2, 3, 4, 12};
        for (int what = 0; what < 6; what++) {
            BENCH.due("figure 0, " + what, album.figureIs(0, what), parts[what]);
        }
        BENCH.due("who was taken out", album.figureIs(1, 0), 15);
        BENCH.due("pain of d", album.personIs(3, 0), 33);
        BENCH.due("pain of all", album.count(6), 33);
        BENCH.due("the day", album.count(0), 1);
        BENCH.due("x", album.count(4), 39022);
        BENCH.due("in how many", album.personIs(15, 3), 1);
        BENCH.due("how many days ago", album.personIs(15, 4), 1);
        BENCH.due("the bound is not kept", album.count(1), 7);
        BENCH.due("the law is not kept", album.count(2), 1);
        BENCH.due("the tape is not kept", album.count(3), 20);
        album.pain(0, 9);
        BENCH.due("undo again", album.undo(), true);
        BENCH.due("as they were kept last", album.count(6), 33);
        album.pain(0, 9);
        BENCH.due("kept anew", album.keep(), 1);
        album.pain(0, 10);
        album.undo();
        BENCH.due("as they were kept anew", album.count(6), 42);
        BENCH.due("kept as new", new MarginAlbum().keep(), 0);
    }

    /** The album is KEPT with all of its CUTS, those that were remembered then. */
    private static void theAlbumUndone() {
        MarginAlbum album = Bench.printed("a0,0:1x1");
        Bench.law(album, "c(p=0&d%2=0)");
        album.days(30);
        album.days(5);
        BENCH.due("keep", album.keep(), 35);
        Bench.law(album, "h10(1=1)");
        album.days(30);
        album.days(3);
        BENCH.due("undo", album.undo(), true);
        for (int i = 1; i <= 30; i++) {
            BENCH.due("who showed " + i + " days ago", album.album(i, 4), (35 - i) % 2);
            BENCH.due("slip of " + i + " days ago", album.album(i, 5), 0);
        }
        BENCH.due("cuts", album.count(5), 35);
        BENCH.due("in how many", album.personIs(0, 3), 17);
        BENCH.due("how many days ago", album.personIs(0, 4), 2);
        album.days(1);
        BENCH.due("the next one", album.album(1, 5), 1);
        BENCH.due("behind the last", album.album(2, 4), 0);
        BENCH.due("and so on", album.album(3, 4), 1);
    }

    /** "0 THE DAY, 1 BOUND, 2 RULES, 3 bytes of the tape, 4 X, 5 CUTS in the album, 6 PAIN of all. NONE for others". */
    private static void countedThings() {
        MarginAlbum album = new MarginAlbum();
        int[] first = {0, 50, 0, 0, 1, 0, 0};
        for (int what = 0; what < 7; what++) {
            BENCH.due("at first, " + what, album.count(what), first[what]);
        }
        for (int p = 0; p < 16; p++) {
            album.pain(p, 99);
        }
        album.bound(3);
        Bench.law(album, "w0(1=1);l0(1=1)");
        album.days(3);
        album.seed(65535);
        Bench.feed(album, new int[41]);
        int[] then = {3, 3, 2, 60, 65535, 3, 1584};
        for (int what = 0; what < 7; what++) {
            BENCH.due("then, " + what, album.count(what), then[what]);
        }
        for (int what : new int[] {-1, 7, Integer.MIN_VALUE, Integer.MAX_VALUE}) {
            BENCH.due("count " + what, album.count(what), -1);
        }
    }
}
