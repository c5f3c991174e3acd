/**
 * "A call that is refused (NONE, false) changes nothing but the tape, where it is told", call by call;
 * nor does one that answers -2, -3 or a FAULT; and no question changes what is asked.
 */
public final class RefusedTest {
    private static final Bench BENCH = new Bench("RefusedTest");
    private static final int LEAST = Integer.MIN_VALUE;
    private static final int MOST = Integer.MAX_VALUE;
    private static final int[] WRONG = {-1, LEAST, MOST, 65536};

    public static void main(String[] args) {
        painBoundSeed();
        feed();
        texts();
        textsOfTooFewBytes();
        days();
        questions();
        ofTheTape();
        ofTooFewBytes();
        undo();
        faults();
        fruitless();
        questionsChangeNothing();
        BENCH.end();
    }

    private static void refuse(int tapeBytes, String call, Twins.Call refused, int due) {
        new Twins(tapeBytes).refuse(BENCH, call, refused, due);
    }

    private static void empty(int tapeBytes, String call, Twins.Call fruitless, int due) {
        new Twins(tapeBytes).empty(BENCH, call, fruitless, due);
    }

    private static void painBoundSeed() {
        for (int wrong : WRONG) {
            refuse(20, "pain " + wrong, album -> album.pain(wrong, 1) ? 1 : 0, 0);
            refuse(20, "pain 0 " + wrong, album -> album.pain(0, wrong) ? 1 : 0, 0);
            refuse(20, "bound " + wrong, album -> album.bound(wrong) ? 1 : 0, 0);
            refuse(20, "seed " + wrong, album -> album.seed(wrong) ? 1 : 0, 0);
        }
        refuse(20, "pain 16", album -> album.pain(16, 1) ? 1 : 0, 0);
        refuse(20, "pain 0 100", album -> album.pain(0, 100) ? 1 : 0, 0);
        refuse(20, "bound 100", album -> album.bound(100) ? 1 : 0, 0);
    }

    private static void feed() {
        refuse(260, "feed behind 260", album -> album.feed(1, 2, 3, 4, 5), -1);
        refuse(260, "feed behind 260, all bits", album -> album.feed(-1, -1, -1, -1, -1), -1);
    }

    private static void texts() {
        for (int wrong : WRONG) {
            refuse(260, "law " + wrong, album -> album.law(wrong), -1);
            refuse(260, "print " + wrong, album -> album.print(wrong), -1);
            refuse(260, "edits " + wrong, album -> album.edits(wrong), -1);
        }
        refuse(260, "law 0", album -> album.law(0), -1);
        refuse(260, "law 241", album -> album.law(241), -1);
        refuse(260, "print 0", album -> album.print(0), -1);
        refuse(260, "print 161", album -> album.print(161), -1);
        refuse(260, "edits 0", album -> album.edits(0), -1);
        refuse(260, "edits 121", album -> album.edits(121), -1);
    }

    private static void textsOfTooFewBytes() {
        for (int bytes : new int[] {0, 20, 60, 100}) {
            refuse(bytes, "law of " + bytes, album -> album.law(bytes + 1), -1);
            refuse(bytes, "print of " + bytes, album -> album.print(bytes + 1), -1);
            refuse(bytes, "edits of " + bytes, album -> album.edits(bytes + 1), -1);
        }
        refuse(140, "print of 140", album -> album.print(141), -1);
        refuse(220, "law of 220", album -> album.law(221), -1);
        refuse(100, "edits of 100", album -> album.edits(120), -1);
        refuse(140, "print of 140", album -> album.print(160), -1);
        refuse(220, "law of 220", album -> album.law(240), -1);
    }

    private static void days() {
        for (int wrong : new int[] {0, 31, -1, LEAST, MOST}) {
            refuse(20, "days " + wrong, album -> album.days(wrong), -1);
            refuse(20, "tried " + wrong, album -> album.tried(wrong, 0), -1);
        }
        for (int wrong : new int[] {-1, 4, 9, 26, LEAST, MOST}) {
            refuse(20, "tried 1 " + wrong, album -> album.tried(1, wrong), -1);
        }
    }

    private static void questions() {
        for (int wrong : WRONG) {
            refuse(20, "figureIs " + wrong, album -> album.figureIs(wrong, 0), -1);
            refuse(20, "figureIs 0 " + wrong, album -> album.figureIs(0, wrong), -1);
            refuse(20, "personIs " + wrong, album -> album.personIs(wrong, 0), -1);
            refuse(20, "personIs 0 " + wrong, album -> album.personIs(0, wrong), -1);
            refuse(20, "without " + wrong, album -> album.without(wrong, 0), -1);
            refuse(20, "without 1 " + wrong, album -> album.without(1, wrong), -1);
            refuse(20, "today " + wrong, album -> album.today(wrong), -1);
            refuse(20, "shows " + wrong, album -> album.shows(wrong, 0, 1, 1, 0), -1);
            refuse(20, "shows what " + wrong, album -> album.shows(0, 0, 1, 1, wrong), -1);
            refuse(20, "sky " + wrong, album -> album.sky(wrong), -1);
            refuse(20, "smallest " + wrong, album -> album.smallest(wrong, 0), -1);
            refuse(20, "smallest 1 " + wrong, album -> album.smallest(1, wrong), -1);
            refuse(20, "smallestOf " + wrong, album -> album.smallestOf(wrong, 0), -1);
            refuse(20, "smallestOf 1 " + wrong, album -> album.smallestOf(1, wrong), -1);
            refuse(20, "printIs " + wrong, album -> album.printIs(wrong), -1);
            refuse(20, "family " + wrong, album -> album.family(wrong), -1);
            refuse(20, "album " + wrong, album -> album.album(wrong, 0), -1);
            refuse(20, "album 1 " + wrong, album -> album.album(1, wrong), -1);
            refuse(20, "fold " + wrong, album -> album.fold(wrong), -1);
            refuse(20, "count " + wrong, album -> album.count(wrong), -1);
        }
    }

    private static void ofTheTape() {
        for (int wrong : WRONG) {
            refuse(20, "pages " + wrong, album -> album.pages(wrong, 0), -1);
            refuse(20, "pages 1 " + wrong, album -> album.pages(1, wrong), -1);
            refuse(20, "offcuts " + wrong, album -> album.offcuts(wrong, 1, 0), -1);
            refuse(20, "offcuts 1 " + wrong, album -> album.offcuts(1, wrong, 0), -1);
            refuse(20, "offcuts 1 1 " + wrong, album -> album.offcuts(1, 1, wrong), -1);
            refuse(60, "told " + wrong, album -> album.told(wrong, 0, 1, 0), -1);
            refuse(60, "told 1 " + wrong, album -> album.told(1, wrong, 1, 0), -1);
            refuse(60, "told 1 0 " + wrong, album -> album.told(1, 0, wrong, 0), -1);
            refuse(60, "told 1 0 1 " + wrong, album -> album.told(1, 0, 1, wrong), -1);
            refuse(40, "frames " + wrong, album -> album.frames(wrong, true), -1);
            refuse(40, "check " + wrong, album -> album.check(wrong), -2);
        }
        refuse(20, "pages 0", album -> album.pages(0, 0), -1);
        refuse(20, "pages 7", album -> album.pages(7, 0), -1);
        refuse(20, "offcuts 0", album -> album.offcuts(0, 1, 0), -1);
        refuse(20, "offcuts 9", album -> album.offcuts(9, 1, 0), -1);
        refuse(20, "offcuts 1 0", album -> album.offcuts(1, 0, 0), -1);
        refuse(20, "offcuts 1 241", album -> album.offcuts(1, 241, 0), -1);
        refuse(60, "told 0", album -> album.told(0, 0, 1, 0), -1);
        refuse(60, "told 13", album -> album.told(13, 0, 1, 0), -1);
        refuse(60, "told 1 11", album -> album.told(1, 11, 1, 0), -1);
        refuse(40, "frames 0", album -> album.frames(0, false), -1);
        refuse(40, "frames 11", album -> album.frames(11, false), -1);
        refuse(40, "check 17", album -> album.check(17), -2);
    }

    private static void ofTooFewBytes() {
        refuse(0, "pages of an empty tape", album -> album.pages(1, 0), -1);
        refuse(0, "offcuts of an empty tape", album -> album.offcuts(1, 1, 0), -1);
        refuse(0, "told by an empty tape", album -> album.told(1, 0, 1, 0), -1);
        refuse(0, "frames of an empty tape", album -> album.frames(1, false), -1);
        refuse(0, "check of an empty tape", album -> album.check(1), -2);
        refuse(20, "told 11 by 20 bytes", album -> album.told(11, 0, 1, 0), -1);
        refuse(20, "told 1 10 by 20 bytes", album -> album.told(1, 10, 1, 0), -1);
        refuse(40, "told 12 9 by 40 bytes", album -> album.told(12, 9, 1, 0), -1);
    }

    /** "false: none was KEPT". */
    private static void undo() {
        MarginAlbum album = Bench.printed("a1,1:2x2");
        album.pain(4, 5);
        album.days(2);
        Bench.feed(album, 1);
        BENCH.due("undo", album.undo(), false);
        BENCH.due("undo again", album.undo(), false);
        int[] counts = {2, 50, 0, 20, 61087, 2, 5};
        for (int what = 0; what < 7; what++) {
            BENCH.due("count " + what, album.count(what), counts[what]);
        }
        BENCH.due("figures", album.printIs(1), 1);
        BENCH.due("the album", album.album(2, 4), 1);
        BENCH.due("keep", album.keep(), 2);
        BENCH.due("undo then", album.undo(), true);
    }

    private static void faults() {
        empty(20, "print with a fault", album -> album.print(20), -1019);
        empty(20, "print with a fault at the end", album -> album.print(9), -1009);
        empty(20, "edits with a fault", album -> album.edits(20), -1001);
        empty(20, "law with a fault", album -> album.law(20), -1000);
        empty(260, "print of 160", album -> album.print(160), -1019);
        empty(260, "edits of 120", album -> album.edits(120), -1001);
        empty(260, "law of 240", album -> album.law(240), -1000);
    }

    /** The tape begins with the bytes of "b3,2:5x4;k15,11:1x1a". */
    private static void fruitless() {
        empty(20, "pages of none such", album -> album.pages(1, 0), -2);
        empty(20, "pages of none such in any order", album -> album.pages(6, 1), -2);
        empty(20, "offcuts of none such", album -> album.offcuts(8, 240, 1), -3);
        empty(40, "told by none such", album -> album.told(9, 1, 1, 0), -3);
        empty(20, "frames", album -> album.frames(10, true), framesOfTheTape());
        empty(20, "check", album -> album.check(16), 0);
        empty(20, "check 0", album -> album.check(0), -1);
        empty(20, "told", album -> album.told(1, 0, 7, 0), 7 & ~('b' << 8 | '3'));
    }

    private static int framesOfTheTape() {
        MarginAlbum album = new MarginAlbum();
        Bench.feed(album, Bench.bytesOf(Twins.TAPE));
        return album.frames(10, true);
    }

    /** Questions that are answered change nothing either. */
    private static void questionsChangeNothing() {
        for (int what = 0; what < 4; what++) {
            int asked = what;
            int without = answer(album -> album.without(4, asked));
            refuse(20, "without", album -> album.without(4, asked), without);
            refuse(20, "today", album -> album.today(asked), answer(album -> album.today(asked)));
            refuse(20, "sky", album -> album.sky(asked), answer(album -> album.sky(asked)));
            refuse(20, "smallest", album -> album.smallest(2, asked), answer(album -> album.smallest(2, asked)));
            refuse(20, "smallest of none", album -> album.smallest(16, asked), -2);
            refuse(20, "smallestOf", album -> album.smallestOf(8, asked), answer(album -> album.smallestOf(8, asked)));
            refuse(20, "shows", album -> album.shows(1, 1, 3, 3, asked), answer(album -> album.shows(1, 1, 3, 3, asked)));
            refuse(20, "tried", album -> album.tried(30, asked), answer(album -> album.tried(30, asked)));
            refuse(20, "family", album -> album.family(asked), answer(album -> album.family(asked)));
            refuse(20, "printIs", album -> album.printIs(asked + 2), answer(album -> album.printIs(asked + 2)));
            refuse(20, "personIs", album -> album.personIs(3, asked + 3), answer(album -> album.personIs(3, asked + 3)));
            refuse(20, "album", album -> album.album(2, asked), answer(album -> album.album(2, asked)));
            refuse(20, "album of none", album -> album.album(30, asked), -2);
            refuse(20, "fold", album -> album.fold(asked + 1), answer(album -> album.fold(asked + 1)));
        }
        refuse(20, "seen", album -> album.figureIs(0, 5), 1);
        refuse(20, "count", album -> album.count(6), answer(album -> album.count(6)));
    }

    private static int answer(Twins.Call call) {
        return Twins.ask(call);
    }
}
