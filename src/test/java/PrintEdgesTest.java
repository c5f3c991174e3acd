/** "A PRINT" sentence by sentence, on both sides of each boundary; promises 6, 8 and 11. */
public final class PrintEdgesTest {
    private static final Bench BENCH = new Bench("PrintEdgesTest");
    private static final Standing TEXT = new Standing(BENCH, Bench::print, "b2,3:4x5");

    public static void main(String[] args) {
        cellsOfThePrint();
        twelveFigures();
        personsAToP();
        numbersOfOneOrTwoDigits();
        whatCanStand();
        theEnd();
        thirdDigit();
        beyondThePrint();
        thirteenthLine();
        firstFromTheLeft();
        allStayByAFault();
        inPlaceOfAllBefore();
        atMost160Bytes();
        firstBytesOfTheTape();
        leftXOfAMirror();
        figuresThatAreTold();
        BENCH.end();
    }

    private static String lines(String line, int n) {
        return String.join(";", java.util.Collections.nCopies(n, line));
    }

    private static void dueFigure(MarginAlbum album, int i, int... parts) {
        for (int what = 0; what < 5; what++) {
            BENCH.due("figure " + i + ", " + what, album.figureIs(i, what), parts[what]);
        }
    }

    /** "CELLS, X 0 to 15, Y 0 to 11", "3 X above 15, Y above 11". */
    private static void cellsOfThePrint() {
        MarginAlbum album = new MarginAlbum();
        BENCH.due("the corners", Bench.print(album, "a0,0:1x1;b15,0:1x1;c0,11:1x1;d15,11:1x1"), 4);
        dueFigure(album, 0, 0, 0, 0, 1, 1);
        dueFigure(album, 1, 1, 15, 0, 1, 1);
        dueFigure(album, 2, 2, 0, 11, 1, 1);
        dueFigure(album, 3, 3, 15, 11, 1, 1);
        TEXT.due("a15,0:1x1", 1);
        TEXT.due("a16,0:1x1", -3001);
        TEXT.due("a99,0:1x1", -3001);
        TEXT.due("a0,11:1x1", 1);
        TEXT.due("a0,12:1x1", -3003);
        TEXT.due("a0,99:1x1", -3003);
        TEXT.due("a15,12:1x1", -3004);
        TEXT.due("b1,1:1x1;a16,0:1x1", -3010);
    }

    /** "FIGURES 0 to 11: told or not", "LINES .. (12 at most)". */
    private static void twelveFigures() {
        MarginAlbum album = new MarginAlbum();
        BENCH.due("11 lines", Bench.print(album, lines("c1,2:3x4", 11)), 11);
        BENCH.due("11 are told", album.printIs(1), 2047);
        dueFigure(album, 10, 2, 1, 2, 3, 4);
        dueFigure(album, 11, -1, -1, -1, -1, -1);
        BENCH.due("12 lines", Bench.print(album, lines("d2,3:4x5", 12)), 12);
        BENCH.due("12 are told", album.printIs(1), 4095);
        dueFigure(album, 0, 3, 2, 3, 4, 5);
        dueFigure(album, 11, 3, 2, 3, 4, 5);
        dueFigure(album, 12, -1, -1, -1, -1, -1);
        BENCH.due("13 lines", Bench.print(album, lines("d2,3:4x5", 13)), -4108);
        BENCH.due("one line", Bench.print(album, "a0,0:1x1"), 1);
        BENCH.due("one is told", album.printIs(1), 1);
    }

    /** "each of a PERSON a to p (0 to 15)". */
    private static void personsAToP() {
        for (char letter = 'a'; letter <= 'p'; letter++) {
            MarginAlbum album = Bench.printed(letter + "0,0:1x1");
            BENCH.due("person " + letter, album.figureIs(0, 0), letter - 'a');
            BENCH.due("bit of " + letter, album.printIs(2), 1 << letter - 'a');
        }
        TEXT.due("q0,0:1x1", -1000);
        TEXT.due("`0,0:1x1", -1000);
        TEXT.due("A0,0:1x1", -1000);
        TEXT.due("a0,0:1x1;p0,0:1x1", 2);
        TEXT.due("a0,0:1x1;q0,0:1x1", -1009);
    }

    /** "numbers of one or two digits". */
    private static void numbersOfOneOrTwoDigits() {
        MarginAlbum album = new MarginAlbum();
        BENCH.due("one digit", Bench.print(album, "a9,8:7x4"), 1);
        dueFigure(album, 0, 0, 9, 8, 7, 4);
        BENCH.due("two digits", Bench.print(album, "a09,08:07x04"), 1);
        dueFigure(album, 0, 0, 9, 8, 7, 4);
        BENCH.due("two digits of ten and more", Bench.print(album, "a05,01:11x11"), 1);
        dueFigure(album, 0, 0, 5, 1, 11, 11);
        BENCH.due("more", Bench.print(album, "b13,10:03x02"), 1);
        dueFigure(album, 0, 1, 13, 10, 3, 2);
        BENCH.due("two zeros", Bench.print(album, "a00,00:16x12"), 1);
        dueFigure(album, 0, 0, 0, 0, 16, 12);
    }

    /** "1 what can't stand there", for each byte behind each part of a LINE. */
    private static void whatCanStand() {
        String digits = "0123456789";
        String letters = "abcdefghijklmnop";
        TEXT.behind("", letters);
        TEXT.behind("a", digits);
        TEXT.behind("a1", digits + ",");
        TEXT.behind("a12", digits + ",");
        TEXT.behind("a1,", digits);
        TEXT.behind("a1,1", digits + ":");
        TEXT.behind("a1,11", digits + ":");
        TEXT.behind("a1,1:", digits);
        TEXT.behind("a1,1:1", digits + "x");
        TEXT.behind("a1,1:11", digits + "x");
        TEXT.behind("a1,1:1x", digits);
        TEXT.behind("a1,1:1x1", digits + ";");
        TEXT.behind("a1,1:1x11", digits + ";");
        TEXT.behind("a1,1:1x1;", letters);
        TEXT.behind("a1,1:1x1;p", digits);
    }

    /** "1 what can't stand there (the end, too)". */
    private static void theEnd() {
        String text = "a02,00:11x11";
        for (int n = 1; n < text.length() - 1; n++) {
            TEXT.noEndBehind(text.substring(0, n));
        }
        TEXT.due("a02,00:11x1", 1);
        TEXT.due(text, 1);
        TEXT.noEndBehind(text + ";");
        TEXT.noEndBehind(text + ";b");
    }

    /** "2 a third digit, at it". */
    private static void thirdDigit() {
        TEXT.due("a00,0:1x1", 1);
        TEXT.due("a000,0:1x1", -2003);
        TEXT.due("a0,00:1x1", 1);
        TEXT.due("a0,000:1x1", -2005);
        TEXT.due("a0,0:01x1", 1);
        TEXT.due("a0,0:001x1", -2007);
        TEXT.due("a0,0:1x01", 1);
        TEXT.due("a0,0:1x001", -2009);
        TEXT.due("a0,0:1x1;a000", -2012);
        // a number that goes on has not ended: its bounds are not asked
        TEXT.due("a160,0:1x1", -2003);
        TEXT.due("a0,120:1x1", -2005);
        TEXT.due("a0,0:170x1", -2007);
        TEXT.due("a0,0:000x1", -2007);
        TEXT.due("a0,0:1x130", -2009);
    }

    /** "3 .. wide or high 0, beyond the PRINT, at the number's first digit (asked when it ends)". */
    private static void beyondThePrint() {
        TEXT.due("a0,0:0x1", -3005);
        TEXT.due("a0,0:00x1", -3005);
        TEXT.due("a0,0:1x0", -3007);
        TEXT.due("a0,0:1x00", -3007);
        TEXT.due("a0,0:16x1", 1);
        TEXT.due("a0,0:17x1", -3005);
        TEXT.due("a1,0:15x1", 1);
        TEXT.due("a1,0:16x1", -3005);
        TEXT.due("a14,0:2x1", 1);
        TEXT.due("a14,0:3x1", -3006);
        TEXT.due("a15,0:1x1", 1);
        TEXT.due("a15,0:2x1", -3006);
        TEXT.due("a0,0:1x12", 1);
        TEXT.due("a0,0:1x13", -3007);
        TEXT.due("a0,1:1x11", 1);
        TEXT.due("a0,1:1x12", -3007);
        TEXT.due("a0,10:1x2", 1);
        TEXT.due("a0,10:1x3", -3008);
        TEXT.due("a0,11:1x1", 1);
        TEXT.due("a0,11:1x2", -3008);
        TEXT.due("a0,0:1x99", -3007);
        // it ends with the text, or at what can't stand there
        TEXT.due("a16", -3001);
        TEXT.due("a16?", -3001);
        TEXT.due("a1,12", -3003);
        TEXT.due("a1,12?", -3003);
        TEXT.due("a1,1:0", -3005);
        TEXT.due("a1,1:16", -3005);
        TEXT.due("a1,1:1x12", -3007);
        TEXT.due("a1,1:1x12?", -3007);
    }

    /** "4 a 13th LINE, at its letter (if that can stand there)". */
    private static void thirteenthLine() {
        String twelve = lines("a0,0:1x1", 12);
        TEXT.due(twelve, 12);
        for (char letter = 'a'; letter <= 'p'; letter++) {
            TEXT.due(twelve + ";" + letter, -4108);
        }
        TEXT.due(twelve + ";a0,0:1x1", -4108);
        TEXT.due(twelve + ";a?", -4108);
        TEXT.due(twelve + ";q", -1108);
        TEXT.due(twelve + ";`", -1108);
        TEXT.due(twelve + ";;", -1108);
        TEXT.due(twelve + "; a", -1108);
        TEXT.due(twelve + ";", -1108);
        TEXT.due(twelve + "?", -1107);
        TEXT.due(lines("a0,0:1x1", 11) + ";q", -1099);
        TEXT.due(lines("a0,0:1x1", 11) + ";p", -1100);
    }

    /** "FAULTS, the first from the left". */
    private static void firstFromTheLeft() {
        TEXT.due("a16,12:0x0;q", -3001);
        TEXT.due("a0,12:0x0;q", -3003);
        TEXT.due("a0,0:0x0;q", -3005);
        TEXT.due("a0,0:1x0;q", -3007);
        TEXT.due("a0,0:1x1;q", -1009);
        TEXT.due("a0;000:1x1", -1002);
        TEXT.due("a0,000;1x1", -2005);
        TEXT.due(lines("a0,0:1x1", 11) + ";a0,0:1x0;b", -3106);
    }

    /** "All stay by a PRINT with a FAULT", "(1 to 160; empty then)". */
    private static void allStayByAFault() {
        String eleven = lines("c1,1:1x1", 11);
        String[] texts = {"?", "c1,1:1x000", "c1,1:1x0", lines("c1,1:1x1", 13), eleven + ";d", "c1,1:1x1;"};
        int[] faults = {-1000, -2009, -3007, -4108, -1100, -1009};
        for (int i = 0; i < texts.length; i++) {
            MarginAlbum album = Bench.printed("b2,3:4x5;p0,0:1x2");
            album.pain(2, 7);
            album.days(1);
            BENCH.due("print " + texts[i], Bench.print(album, texts[i]), faults[i]);
            BENCH.due("empty then by " + texts[i], album.count(3), 0);
            BENCH.due("all stay by " + texts[i], album.printIs(1), 3);
            dueFigure(album, 0, 1, 2, 3, 4, 5);
            dueFigure(album, 1, 15, 0, 0, 1, 2);
            BENCH.due("pain stays by " + texts[i], album.personIs(2, 0), 7);
            BENCH.due("the album stays by " + texts[i], album.album(1, 4), 2 + 32768);
        }
    }

    /** "FIGURE 0 by the first LINE, and so on, in place of all before". */
    private static void inPlaceOfAllBefore() {
        MarginAlbum album = Bench.printed("a0,0:1x1;b1,1:2x2;c2,2:3x3");
        dueFigure(album, 0, 0, 0, 0, 1, 1);
        dueFigure(album, 1, 1, 1, 1, 2, 2);
        dueFigure(album, 2, 2, 2, 2, 3, 3);
        BENCH.due("two in place of three", Bench.print(album, "d3,3:4x4;e4,4:5x5"), 2);
        dueFigure(album, 0, 3, 3, 3, 4, 4);
        dueFigure(album, 1, 4, 4, 4, 5, 5);
        dueFigure(album, 2, -1, -1, -1, -1, -1);
        Bench.edits(album, "#0!");
        BENCH.due("one in place of those left", Bench.print(album, "f5,5:6x6"), 1);
        dueFigure(album, 0, 5, 5, 5, 6, 6);
        BENCH.due("no other", album.printIs(1), 1);
    }

    /** "a TEXT of at most 160 bytes": no PRINT needs more than 155, but a FAULT is still told of 160. */
    private static void atMost160Bytes() {
        String longest = lines("p10,10:01x02", 12);
        TEXT.due(longest, 12);
        BENCH.due("the longest print", longest.length(), 155);
        TEXT.due(longest + "?????", -1155);
        MarginAlbum album = Bench.printed("b2,3:4x5");
        BENCH.due("161 bytes", Bench.print(album, longest + "??????"), -1);
        BENCH.due("the tape stays", album.count(3), 180);
        BENCH.due("161 bytes again", album.print(161), -1);
        BENCH.due("160 of them", album.print(160), -1155);
        BENCH.due("empty then", album.count(3), 0);
    }

    /** "by the first n bytes of the tape (1 to 160; empty then) .. NONE: as above". */
    private static void firstBytesOfTheTape() {
        MarginAlbum album = new MarginAlbum();
        BENCH.due("1 of an empty tape", album.print(1), -1);
        Bench.feed(album, Bench.bytesOf("a0,0:1x1;b0,0:2x2;c1"));
        BENCH.due("0 bytes", album.print(0), -1);
        BENCH.due("-1 bytes", album.print(-1), -1);
        BENCH.due("21 of 20 bytes", album.print(21), -1);
        BENCH.due("the tape stays", album.count(3), 20);
        BENCH.due("no figure", album.printIs(1), 0);
        BENCH.due("8 of 20 bytes", album.print(8), 1);
        BENCH.due("empty then", album.count(3), 0);
        Bench.feed(album, Bench.bytesOf("a0,0:1x1;b0,0:2x2;c1"));
        BENCH.due("1 byte", album.print(1), -1001);
        BENCH.due("empty by a fault, too", album.count(3), 0);
        Bench.feed(album, Bench.bytesOf("a0,0:1x1;b10,10:2x02"));
        BENCH.due("all 20 bytes", album.print(20), 2);
    }

    /** "MIRROR: the PRINT is turned left to right (FIGURES' left X: 16 less left and width)", "how many FIGURES". */
    private static void leftXOfAMirror() {
        MarginAlbum album = new MarginAlbum();
        BENCH.due("no figure", album.mirror(), 0);
        Bench.print(album, "a0,1:1x2;b15,2:1x3;c0,3:16x1;d3,4:9x2;e0,5:15x1");
        BENCH.due("five figures", album.mirror(), 5);
        dueFigure(album, 0, 0, 15, 1, 1, 2);
        dueFigure(album, 1, 1, 0, 2, 1, 3);
        dueFigure(album, 2, 2, 0, 3, 16, 1);
        dueFigure(album, 3, 3, 4, 4, 9, 2);
        dueFigure(album, 4, 4, 1, 5, 15, 1);
        Bench.edits(album, "#0!;#4!");
        BENCH.due("three figures", album.mirror(), 3);
        dueFigure(album, 1, 1, 15, 2, 1, 3);
        dueFigure(album, 3, 3, 3, 4, 9, 2);
        dueFigure(album, 4, -1, -1, -1, -1, -1);
        Bench.print(album, lines("a0,0:1x1", 12));
        BENCH.due("twelve figures", album.mirror(), 12);
        dueFigure(album, 11, 0, 15, 0, 1, 1);
    }

    /** "Of a told FIGURE, what 0 .. 5; NONE for others". */
    private static void figuresThatAreTold() {
        MarginAlbum album = Bench.printed("a3,2:5x4;b9,9:1x1");
        int[] parts = {0, 3, 2, 5, 4, 20};
        for (int what = 0; what < 6; what++) {
            BENCH.due("figureIs 0 " + what, album.figureIs(0, what), parts[what]);
            for (int i : new int[] {-1, 2, 11, 12, Integer.MIN_VALUE, Integer.MAX_VALUE}) {
                BENCH.due("figureIs " + i + " " + what, album.figureIs(i, what), -1);
            }
        }
        for (int what : new int[] {-1, 6, Integer.MIN_VALUE, Integer.MAX_VALUE}) {
            BENCH.due("figureIs 0 " + what, album.figureIs(0, what), -1);
        }
        Bench.edits(album, "#0!");
        BENCH.due("taken out", album.figureIs(0, 0), -1);
        BENCH.due("taken out: seen", album.figureIs(0, 5), -1);
        BENCH.due("the other", album.figureIs(1, 5), 1);
    }
}
