/** Promises 1 to 4, 27 to 31: a new object, pain, bound, feed, seed, keep, undo, check, count. */
public final class SmallThingsTest {
    private static final Bench BENCH = new Bench("SmallThingsTest");

    public static void main(String[] args) {
        newObject();
        pain();
        bound();
        feed();
        seed();
        keepAndUndo();
        check();
        count();
        BENCH.end();
    }

    private static void newObject() {
        MarginAlbum album = new MarginAlbum();
        BENCH.due("NONE", MarginAlbum.NONE, -1);
        BENCH.due("new: figures", album.printIs(1), 0);
        BENCH.due("new: persons", album.printIs(2), 0);
        int[] counts = {0, 50, 0, 0, 1, 0, 0};
        for (int what = 0; what < counts.length; what++) {
            BENCH.due("new: count " + what, album.count(what), counts[what]);
        }
        for (int p = 0; p < 16; p++) {
            BENCH.due("new: pain of " + p, album.personIs(p, 0), 0);
            BENCH.due("new: last shown of " + p, album.personIs(p, 4), 99);
        }
        BENCH.due("new: album", album.album(1, 0), -2);
        BENCH.due("new: undo", album.undo(), false);
    }

    private static void pain() {
        MarginAlbum album = new MarginAlbum();
        BENCH.due("pain 0 0", album.pain(0, 0), true);
        BENCH.due("pain 15 99", album.pain(15, 99), true);
        BENCH.due("pain of 15", album.personIs(15, 0), 99);
        BENCH.due("pain 15 100", album.pain(15, 100), false);
        BENCH.due("pain 15 -1", album.pain(15, -1), false);
        BENCH.due("pain of 15 stays", album.personIs(15, 0), 99);
        BENCH.due("pain 16", album.pain(16, 1), false);
        BENCH.due("pain -1", album.pain(-1, 1), false);
        BENCH.due("pain least", album.pain(Integer.MIN_VALUE, Integer.MAX_VALUE), false);
        BENCH.due("pain of all", album.count(6), 99);
    }

    private static void bound() {
        MarginAlbum album = new MarginAlbum();
        album.pain(3, 50);
        BENCH.due("at the bound: not painful", album.personIs(3, 1), 0);
        album.pain(3, 51);
        BENCH.due("above the bound: painful", album.personIs(3, 1), 1);
        BENCH.due("bound 99", album.bound(99), true);
        BENCH.due("below a new bound", album.printIs(5), 0);
        BENCH.due("bound 0", album.bound(0), true);
        BENCH.due("above a new bound", album.printIs(5), 8);
        BENCH.due("bound 100", album.bound(100), false);
        BENCH.due("bound -1", album.bound(-1), false);
        BENCH.due("bound stays", album.count(1), 0);
    }

    private static void feed() {
        MarginAlbum album = new MarginAlbum();
        BENCH.due("feed 1", album.feed(0x00010203, 0x04050607, 0, 0, 0x0000000c), 20);
        for (int p = 0; p < 8; p++) {
            album.pain(p, p);
        }
        BENCH.due("the highest first", album.check(16), -1);
        for (int i = 1; i <= 13; i++) {
            BENCH.due("feed " + i, album.feed(-1, -1, -1, -1, -1), 20 * i);
        }
        BENCH.due("a 14th feed", album.feed(0, 0, 0, 0, 0), -1);
        BENCH.due("what it has then", album.count(3), 260);
        BENCH.due("emptied", album.check(0), -1);
        BENCH.due("what it has then", album.count(3), 0);
        BENCH.due("fed anew", album.feed(0x6130, 0, 0, 0, 0), 20);
        BENCH.due("bytes above 127", album.frames(1, false), -2);
    }

    private static void seed() {
        MarginAlbum album = new MarginAlbum();
        BENCH.due("seed 65535", album.seed(65535), true);
        BENCH.due("x", album.count(4), 65535);
        BENCH.due("seed 65536", album.seed(65536), false);
        BENCH.due("seed -1", album.seed(-1), false);
        BENCH.due("x stays", album.count(4), 65535);
        album.days(1);
        BENCH.due("x after a draw", album.count(4), (25173L * 65535 + 13849) % 65536);
        BENCH.due("seed 0", album.seed(0), true);
        album.days(1);
        BENCH.due("x after a draw from 0", album.count(4), 13849);
    }

    private static void keepAndUndo() {
        MarginAlbum album = Bench.printed("a0,0:2x2;b4,4:1x1");
        Bench.law(album, "w7(p=0)");
        album.days(3);
        album.seed(77);
        BENCH.due("keep", album.keep(), 3);
        Bench.print(album, "c1,1:1x1;c0,0:1x12");
        album.pain(2, 99);
        album.days(30);
        Bench.law(album, "l1(p=1);l2(p=2)");
        album.bound(20);
        album.pain(4, 40);
        album.days(2);
        album.feed(1, 2, 3, 4, 5);
        BENCH.due("undo", album.undo(), true);
        BENCH.due("figures", album.printIs(2), 3);
        BENCH.due("a figure's place", album.figureIs(1, 1), 4);
        BENCH.due("pain of 0", album.personIs(0, 0), 21);
        BENCH.due("pain of 4", album.personIs(4, 0), 0);
        BENCH.due("day", album.count(0), 3);
        BENCH.due("album", album.album(4, 0), -2);
        BENCH.due("how often shown", album.personIs(1, 3), 3);
        BENCH.due("the cut of a day ago", album.album(1, 2), 16);
        BENCH.due("the cut of two days ago", album.album(2, 4), 3);
        BENCH.due("shown last", album.personIs(1, 4), 1);
        BENCH.due("x", album.count(4), 77);
        BENCH.due("bound is not kept", album.count(1), 20);
        BENCH.due("the law is not kept", album.count(2), 2);
        BENCH.due("the tape is not kept", album.count(3), 20);
        album.days(1);
        BENCH.due("undo again", album.undo(), true);
        BENCH.due("day again", album.count(0), 3);
        album.days(1);
        BENCH.due("keep anew", album.keep(), 4);
        album.days(1);
        BENCH.due("undo to the last", album.undo(), true);
        BENCH.due("day of the last", album.count(0), 4);
    }

    private static void check() {
        MarginAlbum album = new MarginAlbum();
        album.pain(1, 9);
        album.pain(15, 8);
        album.feed(0x00090000, 0, 0, 8, 0);
        BENCH.due("check 17", album.check(17), -2);
        BENCH.due("check -1", album.check(-1), -2);
        BENCH.due("the tape stays", album.count(3), 20);
        BENCH.due("check 16", album.check(16), -1);
        BENCH.due("the tape is empty", album.count(3), 0);
        BENCH.due("check 1 of none", album.check(1), -2);
        BENCH.due("check 0 of none", album.check(0), -1);
        album.feed(0x00090000, 0, 0, 9, 0);
        BENCH.due("the last one is wrong", album.check(16), 15);
        album.feed(0x00090000, 0, 0, 9, 0);
        BENCH.due("the wrong one is not asked", album.check(15), -1);
        album.feed(0x00080000, 0, 0, 9, 0);
        BENCH.due("the first wrong one", album.check(16), 1);
        album.feed(0, 0, 0, 0, 0);
        BENCH.due("check 0", album.check(0), -1);
        BENCH.due("emptied by 0 bytes", album.count(3), 0);
        album.feed(0xff000000, 0, 0, 0, 0);
        BENCH.due("a byte above all pain", album.check(1), 0);
    }

    private static void count() {
        MarginAlbum album = new MarginAlbum();
        BENCH.due("count -1", album.count(-1), -1);
        BENCH.due("count 7", album.count(7), -1);
        album.pain(0, 99);
        album.pain(9, 1);
        album.days(30);
        album.days(1);
        Bench.law(album, "w1(1=1);w1(1=1);h0(1=0)");
        int[] counts = {31, 50, 3, 0, album.count(4), 31, 100};
        for (int what = 0; what < counts.length; what++) {
            BENCH.due("count " + what, album.count(what), counts[what]);
        }
    }
}
