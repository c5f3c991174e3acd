/** Promises 12, 19 and 20: personIs, printIs, family. */
public final class FamilyTest {
    private static final Bench BENCH = new Bench("FamilyTest");

    public static void main(String[] args) {
        personIs();
        touching();
        holding();
        printIs();
        middle();
        straight();
        wrongCalls();
        BENCH.end();
    }

    private static void personIs() {
        BENCH.due("kin, asked first", Bench.printed("a0,0:2x2;b2,0:1x1").personIs(0, 6), 3);
        BENCH.due("groups, asked first", Bench.printed("a0,0:2x2;b2,0:1x1").printIs(3), 1);
        BENCH.due("holds, asked first", Bench.printed("a0,0:1x1;b1,0:1x1;c2,0:1x1").printIs(4), 2);
        BENCH.due("alone, asked first", Bench.printed("a0,0:2x2;b2,0:1x1;c2,1:1x1;d9,9:1x1").family(0), 8);
        MarginAlbum album = Bench.printed("a0,0:2x2;a5,5:1x1;b15,0:1x1");
        album.pain(0, 51);
        album.days(1);
        int[] ofA = {51, 1, 2, 0, 99, 0, 1};
        int[] ofB = {0, 0, 1, 1, 1, 0, 2};
        int[] ofC = {0, 0, 0, 0, 99, 0, 0};
        for (int what = 0; what < 7; what++) {
            BENCH.due("a " + what, album.personIs(0, what), ofA[what]);
            BENCH.due("b " + what, album.personIs(1, what), ofB[what]);
            BENCH.due("c " + what, album.personIs(2, what), ofC[what]);
        }
        album.days(2);
        BENCH.due("b in how many", album.personIs(1, 3), 3);
        album.pain(1, 99);
        album.days(2);
        BENCH.due("b three days ago", album.personIs(1, 4), 3);
    }

    private static void touching() {
        MarginAlbum album = Bench.printed("a4,4:2x2;b6,4:1x1;c4,6:2x1;d3,3:1x1;e6,6:1x1;a9,9:1x1;f9,9:3x3;g0,10:9x1");
        int[] touched = {2 + 4 + 32, 1, 1 + 16, 0, 4, 1 + 64, 32};
        int[] kin = {1 + 2 + 4 + 16 + 32 + 64, 119, 119, 8, 119, 119, 119};
        for (int p = 0; p < 7; p++) {
            BENCH.due("touched by " + p, album.personIs(p, 5), touched[p]);
            BENCH.due("kin of " + p, album.personIs(p, 6), kin[p]);
        }
        BENCH.due("groups", album.printIs(3), 2);
        BENCH.due("alone", album.family(0), 8);
        Bench.print(album, "a0,0:1x1;b2,0:1x1;c0,2:1x1;d4,4:1x1;e6,4:1x1");
        BENCH.due("not with a gap", album.family(0), 31);
        Bench.print(album, "a0,0:1x1;a1,0:1x1;b1,1:1x1;c2,2:1x1");
        BENCH.due("not oneself", album.personIs(0, 5), 2);
        BENCH.due("not by a corner", album.personIs(1, 5), 1);
        BENCH.due("alone by a corner", album.family(0), 4);
    }

    private static void holding() {
        MarginAlbum album = Bench.printed("a0,0:1x1;b1,0:1x1;c2,0:1x1;d3,0:1x1;e9,9:1x1");
        BENCH.due("a row", album.printIs(4), 6);
        Bench.print(album, "a0,0:2x2;b2,0:1x2;c0,2:3x1");
        BENCH.due("a ring", album.printIs(4), 0);
        Bench.print(album, "a5,5:3x3;b4,5:1x1;c8,6:1x1;d6,8:1x1;p6,4:1x1");
        BENCH.due("a star", album.printIs(4), 1);
        BENCH.due("one group", album.printIs(3), 1);
        Bench.print(album, "a0,0:1x1;b5,5:1x1");
        BENCH.due("none touches", album.printIs(4), 0);
        Bench.print(album, "a0,0:1x1;b1,0:1x1;c2,0:1x1;b0,1:3x1;a2,2:1x1");
        BENCH.due("with more figures", album.printIs(4), 2);
        BENCH.due("a new one", new MarginAlbum().printIs(4), 0);
    }

    private static void printIs() {
        MarginAlbum album = Bench.printed("a0,0:4x4;p2,2:4x4;c15,11:1x1;c0,0:1x1");
        Bench.edits(album, "#2!");
        album.pain(0, 51);
        album.pain(7, 99);
        album.pain(8, 50);
        int[] due = {28, 11, 1 + 4 + 32768, 1, 1, 1 + 128};
        for (int what = 0; what < 6; what++) {
            BENCH.due("printIs " + what, album.printIs(what), due[what]);
        }
    }

    private static void middle() {
        MarginAlbum album = Bench.printed("a0,0:16x12;b7,5:2x2");
        BENCH.due("the lowest figure", album.family(1), 0);
        Bench.print(album, "a0,0:1x1;b7,5:2x1;c8,6:1x1;d7,6:2x2");
        BENCH.due("b is half a row off", album.family(1), 1);
        Bench.print(album, "p15,11:1x1;a0,0:1x1");
        BENCH.due("like ones", album.family(1), 15);
        Bench.print(album, "a0,5:1x2;b8,0:1x2");
        BENCH.due("on or up", album.family(1), 1);
        Bench.print(album, "a0,5:1x2;b4,3:1x1");
        BENCH.due("both added up", album.family(1), 1);
        Bench.print(album, "a15,0:1x1");
        BENCH.due("far off", album.family(1), 0);
        Bench.edits(album, "#0!");
        BENCH.due("no figure", album.family(1), -2);
    }

    private static void straight() {
        MarginAlbum album = Bench.printed("a3,2:4x3;b0,0:1x1;c15,11:1x1");
        BENCH.due("columns", album.family(2), 65534 & ~(1 << 4 | 1 << 5 | 1 << 6));
        BENCH.due("rows", album.family(3), 4094 & ~(1 << 3 | 1 << 4));
        Bench.print(album, "a0,0:16x12");
        BENCH.due("no column", album.family(2), 0);
        BENCH.due("no row", album.family(3), 0);
        Bench.print(album, "a0,0:16x1;b0,0:1x12;b0,2:1x1");
        Bench.edits(album, "#0!");
        BENCH.due("columns of those left", album.family(2), 65534);
        BENCH.due("rows of those left", album.family(3), 0);
    }

    private static void wrongCalls() {
        MarginAlbum album = Bench.printed("a0,0:1x1");
        for (int n : new int[] {-1, 7, Integer.MAX_VALUE, Integer.MIN_VALUE}) {
            BENCH.due("personIs 0 " + n, album.personIs(0, n), -1);
            BENCH.due("printIs " + n, album.printIs(n), -1);
            BENCH.due("family " + n, album.family(n), -1);
        }
        BENCH.due("printIs 6", album.printIs(6), -1);
        BENCH.due("family 4", album.family(4), -1);
        BENCH.due("person 16", album.personIs(16, 0), -1);
        BENCH.due("person -1", album.personIs(-1, 0), -1);
        BENCH.due("person least", album.personIs(Integer.MIN_VALUE, 6), -1);
    }
}
