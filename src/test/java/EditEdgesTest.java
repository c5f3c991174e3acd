/** "EDITS" sentence by sentence, on both sides of each boundary; promise 7. */
public final class EditEdgesTest {
    private static final Bench BENCH = new Bench("EditEdgesTest");
    private static final String PRINT = "b2,3:4x5;c0,0:1x1;d15,11:1x1";
    private static final Standing TEXT = new Standing(BENCH, Bench::edits, PRINT);

    public static void main(String[] args) {
        personsAToP();
        painMoreOrLess();
        figureNumbers();
        aPlaceOn();
        asFarAsThePrintLetsIt();
        takenOut();
        whatCanStand();
        theEnd();
        thirdDigit();
        twentyFirstLine();
        figuresNotTold();
        firstFromTheLeft();
        nothingByAFault();
        atMost120Bytes();
        firstBytesOfTheTape();
        BENCH.end();
    }

    private static String lines(String line, int n) {
        return String.join(";", java.util.Collections.nCopies(n, line));
    }

    private static void dueFigure(String after, MarginAlbum album, int i, int... parts) {
        for (int what = 0; what < 5; what++) {
            BENCH.due("figure " + i + ", " + what + " after " + after, album.figureIs(i, what), parts[what]);
        }
    }

    /** "a letter a to p and + or - and a number". */
    private static void personsAToP() {
        for (int p = 0; p < 16; p++) {
            MarginAlbum album = new MarginAlbum();
            BENCH.due("one line", Bench.edits(album, (char) ('a' + p) + "+7"), 1);
            BENCH.due("pain of " + p, album.personIs(p, 0), 7);
            BENCH.due("pain of all", album.count(6), 7);
        }
        TEXT.due("q+7", -1000);
        TEXT.due("`+7", -1000);
        TEXT.due("A+7", -1000);
        TEXT.due("a+7;q+7", -1004);
    }

    private static void duePain(int before, String text, int after) {
        MarginAlbum album = new MarginAlbum();
        album.pain(0, before);
        BENCH.due(text + " fits", Bench.edits(album, text) > 0, true);
        BENCH.due("pain " + before + " by " + text, album.personIs(0, 0), after);
    }

    /** "(PAIN more or less, 0 to 99)". */
    private static void painMoreOrLess() {
        duePain(0, "a+0", 0);
        duePain(0, "a+99", 99);
        duePain(1, "a+98", 99);
        duePain(1, "a+99", 99);
        duePain(99, "a+1", 99);
        duePain(98, "a+1", 99);
        duePain(0, "a-0", 0);
        duePain(0, "a-1", 0);
        duePain(1, "a-1", 0);
        duePain(2, "a-1", 1);
        duePain(99, "a-99", 0);
        duePain(98, "a-99", 0);
        duePain(99, "a-98", 1);
        duePain(5, "a+04", 9);
        duePain(5, "a-00", 5);
        // the bounds hold after each LINE
        duePain(90, "a+20;a-5", 94);
        duePain(5, "a-20;a+7", 7);
    }

    /** "a FIGURE's number (one or two digits)". */
    private static void figureNumbers() {
        MarginAlbum album = Bench.printed(lines("a3,3:1x1", 12));
        String[] texts = {"#0>", "#00>", "#9>", "#09>", "#10>", "#11>"};
        int[] figures = {0, 0, 9, 9, 10, 11};
        int[] moved = new int[12];
        for (int k = 0; k < texts.length; k++) {
            BENCH.due(texts[k], Bench.edits(album, texts[k]), 1);
            moved[figures[k]]++;
            for (int i = 0; i < 12; i++) {
                BENCH.due("left of " + i + " after " + texts[k], album.figureIs(i, 1), 3 + moved[i]);
            }
        }
        BENCH.due("#12>", Bench.edits(album, "#12>"), -7001);
        BENCH.due("#99>", Bench.edits(album, "#99>"), -7001);
    }

    /** "one of < > ^ _ (a place to the left, right, up, down". */
    private static void aPlaceOn() {
        String[] texts = {"#0<", "#0>", "#0^", "#0_"};
        int[][] places = {{4, 5}, {6, 5}, {5, 4}, {5, 6}};
        for (int k = 0; k < texts.length; k++) {
            MarginAlbum album = Bench.printed("a5,5:3x2;b5,5:3x2");
            BENCH.due(texts[k], Bench.edits(album, texts[k]), 1);
            dueFigure(texts[k], album, 0, 0, places[k][0], places[k][1], 3, 2);
            dueFigure(texts[k], album, 1, 1, 5, 5, 3, 2);
        }
    }

    private static void dueMoved(String print, String text, int left, int top) {
        MarginAlbum album = Bench.printed(print);
        int wide = album.figureIs(0, 3);
        int high = album.figureIs(0, 4);
        BENCH.due(text, Bench.edits(album, text), 1);
        dueFigure(print + " " + text, album, 0, 0, left, top, wide, high);
    }

    /** "as far as the PRINT lets it: else it stays". */
    private static void asFarAsThePrintLetsIt() {
        dueMoved("a1,5:2x2", "#0<", 0, 5);
        dueMoved("a0,5:2x2", "#0<", 0, 5);
        dueMoved("a13,5:2x2", "#0>", 14, 5);
        dueMoved("a14,5:2x2", "#0>", 14, 5);
        dueMoved("a14,5:1x2", "#0>", 15, 5);
        dueMoved("a15,5:1x2", "#0>", 15, 5);
        dueMoved("a5,1:2x2", "#0^", 5, 0);
        dueMoved("a5,0:2x2", "#0^", 5, 0);
        dueMoved("a5,9:2x2", "#0_", 5, 10);
        dueMoved("a5,10:2x2", "#0_", 5, 10);
        dueMoved("a5,10:2x1", "#0_", 5, 11);
        dueMoved("a5,11:2x1", "#0_", 5, 11);
        dueMoved("a0,3:16x2", "#0>", 0, 3);
        dueMoved("a3,0:2x12", "#0_", 3, 0);
    }

    /** "or ! (it is taken out)". */
    private static void takenOut() {
        MarginAlbum album = Bench.printed(PRINT);
        BENCH.due("out", Bench.edits(album, "#1!"), 1);
        BENCH.due("two are left", album.printIs(1), 5);
        dueFigure("#1!", album, 0, 1, 2, 3, 4, 5);
        dueFigure("#1!", album, 1, -1, -1, -1, -1, -1);
        dueFigure("#1!", album, 2, 3, 15, 11, 1, 1);
        BENCH.due("all out", Bench.edits(album, "#0!;#2!"), 2);
        BENCH.due("none is left", album.printIs(1), 0);
        BENCH.due("none is told", Bench.edits(album, "#0!"), -7001);
    }

    /** "1 what can't stand there", for each byte behind each part of a LINE. */
    private static void whatCanStand() {
        String digits = "0123456789";
        String begin = "abcdefghijklmnop#";
        TEXT.behind("", begin);
        TEXT.behind("a", "+-");
        TEXT.behind("p", "+-");
        TEXT.behind("a+", digits);
        TEXT.behind("a-", digits);
        TEXT.behind("a+1", digits + ";");
        TEXT.behind("a-12", digits + ";");
        TEXT.behind("#", digits);
        TEXT.behind("#0", digits + "<>^_!");
        TEXT.behind("#02", digits + "<>^_!");
        TEXT.behind("#0<", ";");
        TEXT.behind("#0!", ";");
        TEXT.behind("a+1;", begin);
        TEXT.behind("#0_;", begin);
        TEXT.behind("#0_;p", "+-");
    }

    /** "(the end, too)". */
    private static void theEnd() {
        TEXT.noEndBehind("a");
        TEXT.noEndBehind("a+");
        TEXT.noEndBehind("a-");
        TEXT.due("a+1", 1);
        TEXT.due("a+12", 1);
        TEXT.noEndBehind("a+12;");
        TEXT.noEndBehind("#");
        TEXT.noEndBehind("#0");
        TEXT.noEndBehind("#00");
        TEXT.due("#0^", 1);
        TEXT.noEndBehind("#0^;");
        TEXT.noEndBehind("#0^;#2");
        TEXT.noEndBehind("#0^;b");
    }

    /** "2 a third digit, at it". */
    private static void thirdDigit() {
        TEXT.due("a+00", 1);
        TEXT.due("a+000", -2004);
        TEXT.due("a-100", -2004);
        TEXT.due("#02<", 1);
        TEXT.due("#002<", -2003);
        // a number that goes on has not ended: whether it is told is not asked
        TEXT.due("#120<", -2003);
        TEXT.due("#030<", -2003);
        TEXT.due("a+1;b-2;#000", -2011);
    }

    /** "4 a 21st LINE, at its first byte (if that can stand there)". */
    private static void twentyFirstLine() {
        TEXT.due(lines("b+1", 19), 19);
        String twenty = lines("b+1", 20);
        TEXT.due(twenty, 20);
        for (char letter = 'a'; letter <= 'p'; letter++) {
            TEXT.due(twenty + ";" + letter, -4080);
        }
        TEXT.due(twenty + ";#", -4080);
        TEXT.due(twenty + ";#99!", -4080);
        TEXT.due(twenty + ";a+1", -4080);
        TEXT.due(twenty + ";q", -1080);
        TEXT.due(twenty + ";`", -1080);
        TEXT.due(twenty + ";\"", -1080);
        TEXT.due(twenty + ";$", -1080);
        TEXT.due(twenty + ";;", -1080);
        TEXT.due(twenty + ";", -1080);
        TEXT.due(twenty + "?", -1079);
        TEXT.due(lines("#0>", 20), 20);
        TEXT.due(lines("#0>", 21), -4080);
        TEXT.due(lines("b+1", 19) + ";#3!", -7077);
    }

    /** "7 a FIGURE that is not told (by LINES ahead, too), at its number's first digit (asked when it ends)". */
    private static void figuresNotTold() {
        TEXT.due("#2!", 1);
        TEXT.due("#3!", -7001);
        TEXT.due("#03!", -7001);
        TEXT.due("#11!", -7001);
        TEXT.due("#12!", -7001);
        TEXT.due("#99!", -7001);
        TEXT.due("#3", -7001);
        TEXT.due("#3?", -7001);
        TEXT.due("#3;", -7001);
        TEXT.due("#0!;#1!;#2!", 3);
        TEXT.due("#0!;#0<", -7005);
        TEXT.due("#0!;#00<", -7005);
        TEXT.due("#0!;#1<;#0", -7009);
        TEXT.due("#2!;b+1;#2!;#2!", -7009);
        BENCH.due("no figure at all", Bench.edits(new MarginAlbum(), "#0<"), -7001);
        MarginAlbum album = Bench.printed(PRINT);
        Bench.edits(album, "#1!");
        BENCH.due("out by edits before", Bench.edits(album, "#0<;#1<"), -7005);
    }

    /** "FAULTS" is told of the first from the left, here too. */
    private static void firstFromTheLeft() {
        TEXT.due("#3*", -7001);
        TEXT.due("#0*;#3!", -1002);
        TEXT.due("a*;#3!", -1001);
        TEXT.due("a+100;#3!", -2004);
        TEXT.due("#3!;a+100", -7001);
        TEXT.due("#0!;#0!;q", -7005);
        TEXT.due("b+1?;q", -1003);
    }

    /** "Nothing is done by EDITS with a FAULT", "(1 to 120; empty then)". */
    private static void nothingByAFault() {
        String some = "b+5;#0<;#0^;#1>;#1_;#2!;p-9;";
        String[] ends = {"", "?", "a+100", "#2!", lines("a+1", 14), "a", "#0"};
        int[] faults = {-1028, -1028, -2032, -7029, -4080, -1029, -1030};
        for (int i = 0; i < ends.length; i++) {
            MarginAlbum album = Bench.printed(PRINT);
            album.pain(15, 50);
            String text = some + ends[i];
            BENCH.due("edits " + text, Bench.edits(album, text), faults[i]);
            BENCH.due("empty then by " + text, album.count(3), 0);
            BENCH.due("no pain more by " + text, album.personIs(1, 0), 0);
            BENCH.due("no pain less by " + text, album.personIs(15, 0), 50);
            BENCH.due("all are told by " + text, album.printIs(1), 7);
            dueFigure(text, album, 0, 1, 2, 3, 4, 5);
            dueFigure(text, album, 1, 2, 0, 0, 1, 1);
            dueFigure(text, album, 2, 3, 15, 11, 1, 1);
        }
    }

    /** "a TEXT of at most 120 bytes": no EDITS need more than 99, but a FAULT is still told of 120. */
    private static void atMost120Bytes() {
        String longest = lines("c+01", 20);
        BENCH.due("the longest edits", longest.length(), 99);
        TEXT.due(longest, 20);
        TEXT.due(longest + "?".repeat(21), -1099);
        MarginAlbum album = Bench.printed(PRINT);
        BENCH.due("121 bytes", Bench.edits(album, longest + "?".repeat(22)), -1);
        BENCH.due("the tape stays", album.count(3), 140);
        BENCH.due("120 of them", album.edits(120), -1099);
        BENCH.due("empty then", album.count(3), 0);
    }

    /** "by the first n bytes of the tape (1 to 120; empty then) .. NONE: as above". */
    private static void firstBytesOfTheTape() {
        MarginAlbum album = Bench.printed(PRINT);
        BENCH.due("1 of an empty tape", album.edits(1), -1);
        Bench.feed(album, Bench.bytesOf("a+1;b+2;c+3;d+4;e+05"));
        BENCH.due("0 bytes", album.edits(0), -1);
        BENCH.due("-1 bytes", album.edits(-1), -1);
        BENCH.due("21 of 20 bytes", album.edits(21), -1);
        BENCH.due("the tape stays", album.count(3), 20);
        BENCH.due("no pain", album.count(6), 0);
        BENCH.due("7 of 20 bytes", album.edits(7), 2);
        BENCH.due("pain by them", album.count(6), 3);
        BENCH.due("empty then", album.count(3), 0);
        Bench.feed(album, Bench.bytesOf("a+1;b+2;c+3;d+4;e+05"));
        BENCH.due("all 20 bytes", album.edits(20), 5);
        BENCH.due("pain by all", album.count(6), 18);
        Bench.feed(album, Bench.bytesOf("a+1;b+2;c+3;d+4;e+05"));
        BENCH.due("1 byte", album.edits(1), -1001);
        BENCH.due("empty by a fault, too", album.count(3), 0);
    }
}
