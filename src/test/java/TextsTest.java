/** Promises 5 to 8 and 11: texts of prints, edits and laws with their faults, mirror, figureIs. */
public final class TextsTest {
    private static final Bench BENCH = new Bench("TextsTest");

    public static void main(String[] args) {
        prints();
        printFaults();
        edits();
        editFaults();
        laws();
        lawFaults();
        refusedLengths();
        mirror();
        figureIs();
        BENCH.end();
    }

    private static String times(String part, int n) {
        return String.join(";", java.util.Collections.nCopies(n, part));
    }

    private static void prints() {
        MarginAlbum album = new MarginAlbum();
        BENCH.due("a print", Bench.print(album, "a0,0:16x12;p15,11:1x1;b03,04:05x06"), 3);
        int[][] parts = {{0, 0, 0, 16, 12}, {15, 15, 11, 1, 1}, {1, 3, 4, 5, 6}};
        for (int i = 0; i < parts.length; i++) {
            for (int what = 0; what < 5; what++) {
                BENCH.due("figure " + i + " " + what, album.figureIs(i, what), parts[i][what]);
            }
        }
        BENCH.due("empty then", album.count(3), 0);
        BENCH.due("in place of all before", Bench.print(album, "c1,1:1x1"), 1);
        BENCH.due("figures then", album.printIs(1), 1);
        BENCH.due("12 lines", Bench.print(album, times("a0,0:1x1", 12)), 12);
        BENCH.due("text of 12 with 160 bytes at most", Bench.print(album, times("a10,10:01x01", 12)), 12);
    }

    private static void printFault(String text, int due) {
        MarginAlbum album = Bench.printed("b2,3:4x5");
        BENCH.due("print " + text, Bench.print(album, text), due);
        BENCH.due("the figure stays by " + text, album.figureIs(0, 1), 2);
        BENCH.due("the tape is empty by " + text, album.count(3), 0);
    }

    private static void printFaults() {
        printFault("A0,0:1x1", -1000);
        printFault("q0,0:1x1", -1000);
        printFault(" a0,0:1x1", -1000);
        printFault(";", -1000);
        printFault("a", -1001);
        printFault("a,", -1001);
        printFault("a1", -1002);
        printFault("a1:", -1002);
        printFault("a1,", -1003);
        printFault("a1,1", -1004);
        printFault("a1,1:", -1005);
        printFault("a1,1:1", -1006);
        printFault("a1,1:1X1", -1006);
        printFault("a1,1:1x", -1007);
        printFault("a1,1:1x1 ", -1008);
        printFault("a1,1:1x1;", -1009);
        printFault("a1,1:1x1;;", -1009);
        printFault("a001,1:1x1", -2003);
        printFault("a160,1:1x1", -2003);
        printFault("a1,123:1x1", -2005);
        printFault("a1,1:100x1", -2007);
        printFault("a1,1:1x100", -2009);
        printFault("a16", -3001);
        printFault("a99?", -3001);
        printFault("a1,12:1x1", -3003);
        printFault("a1,12", -3003);
        printFault("a1,1:00x1", -3005);
        printFault("a1,1:16x1", -3005);
        printFault("a15,1:2x1", -3006);
        printFault("a1,1:1x0", -3007);
        printFault("a1,1:1x12", -3007);
        printFault("a1,1:1x12;?", -3007);
        printFault("a1,1:15x11;b", -1012);
        printFault(times("a0,0:1x1", 12) + ";a", -4108);
        printFault(times("a0,0:1x1", 12) + ";a0,0:1x1", -4108);
        printFault(times("a0,0:1x1", 12) + ";q", -1108);
        printFault(times("a0,0:1x1", 12) + ";", -1108);
        printFault(times("a0,0:1x1", 11) + ";a0,0:1x0;b0,0:1x1", -3106);
    }

    private static void edits() {
        MarginAlbum album = Bench.printed("a0,0:2x2;b15,11:1x1");
        BENCH.due("pain", Bench.edits(album, "a+9;b+07;p+99;p+1;b-8;b+3;c-1"), 7);
        int[] pain = {9, 3, 0};
        for (int p = 0; p < 3; p++) {
            BENCH.due("pain of " + p, album.personIs(p, 0), pain[p]);
        }
        BENCH.due("pain of 15", album.personIs(15, 0), 99);
        BENCH.due("against the edges", Bench.edits(album, "#0<;#0^;#1>;#1_"), 4);
        BENCH.due("left stays", album.figureIs(0, 1), 0);
        BENCH.due("top stays", album.figureIs(0, 2), 0);
        BENCH.due("left stays", album.figureIs(1, 1), 15);
        BENCH.due("top stays", album.figureIs(1, 2), 11);
        BENCH.due("moved", Bench.edits(album, "#00>;#0_;#0_;#01<;#1^;#1^"), 6);
        BENCH.due("right", album.figureIs(0, 1), 1);
        BENCH.due("down", album.figureIs(0, 2), 2);
        BENCH.due("left", album.figureIs(1, 1), 14);
        BENCH.due("up", album.figureIs(1, 2), 9);
        BENCH.due("out", Bench.edits(album, "#0!"), 1);
        BENCH.due("the other keeps its number", album.printIs(1), 2);
        BENCH.due("20 lines", Bench.edits(album, times("c+1", 20)), 20);
        BENCH.due("one after the other", album.personIs(2, 0), 20);
    }

    private static void editFault(String text, int due) {
        MarginAlbum album = Bench.printed("b2,3:4x5;a0,0:1x1");
        album.pain(0, 50);
        BENCH.due("edits " + text, Bench.edits(album, text), due);
        BENCH.due("nothing is moved by " + text, album.figureIs(0, 1), 2);
        BENCH.due("nobody is taken out by " + text, album.printIs(1), 3);
        BENCH.due("no pain by " + text, album.count(6), 50);
        BENCH.due("the tape is empty by " + text, album.count(3), 0);
    }

    private static void editFaults() {
        editFault("q+1", -1000);
        editFault("+1", -1000);
        editFault("a", -1001);
        editFault("a5", -1001);
        editFault("a+", -1002);
        editFault("a+-1", -1002);
        editFault("a+1-1", -1003);
        editFault("a+12;", -1005);
        editFault("a+100", -2004);
        editFault("a+01;b+1;c-000", -2013);
        editFault("#", -1001);
        editFault("#a", -1001);
        editFault("#0", -1002);
        editFault("#0v", -1002);
        editFault("#0<<", -1003);
        editFault("#0>;", -1004);
        editFault("#000>", -2003);
        editFault("#999>", -2003);
        editFault("#2>", -7001);
        editFault("#2", -7001);
        editFault("#2?", -7001);
        editFault("#12>", -7001);
        editFault("#99>", -7001);
        editFault("#0>;#0!;a+1;#00>", -7013);
        editFault("#1!;#1!", -7005);
        editFault(times("a+1", 20) + ";a", -4080);
        editFault(times("a+1", 20) + ";#", -4080);
        editFault(times("a+1", 20) + ";q", -1080);
        editFault(times("a+1", 20) + ";", -1080);
    }

    private static void laws() {
        MarginAlbum album = new MarginAlbum();
        BENCH.due("a law", Bench.law(album, "w1(1=1)"), 1);
        BENCH.due("rules", album.count(2), 1);
        BENCH.due("more kinds", Bench.law(album, "wp*2+[v-n]%7/1(!p=1&(v>2|s<3));l99999(t=99);h10(d<50);c(p>14)"), 4);
        BENCH.due("rules then", album.count(2), 4);
        BENCH.due("empty then", album.count(3), 0);
        BENCH.due("16 rules", Bench.law(album, times("c(p=1)", 16)), 16);
        BENCH.due("six open", Bench.law(album, "w[[[[[[1]]]]]]((((((1=1))))))"), 1);
        BENCH.due("six open with !", Bench.law(album, "c(!!!!!1=1&!!!!!1=1|!(!(!1=1)))"), 1);
    }

    private static void lawFault(String text, int due) {
        MarginAlbum album = new MarginAlbum();
        Bench.law(album, "w3(1=1);w3(1=1)");
        BENCH.due("law " + text, Bench.law(album, text), due);
        BENCH.due("the law before stays by " + text, album.count(2), 2);
        BENCH.due("and is asked by " + text, album.tried(1, 10), 3);
        BENCH.due("the tape is empty by " + text, album.count(3), 0);
    }

    private static void lawFaults() {
        lawFault("x", -1000);
        lawFault("w", -1001);
        lawFault("w(1=1)", -1001);
        lawFault("c1(1=1)", -1001);
        lawFault("c", -1001);
        lawFault("w1", -1002);
        lawFault("w1=1", -1002);
        lawFault("wc(1=1)", -1001);
        lawFault("w1x(1=1)", -1002);
        lawFault("w1(", -1003);
        lawFault("w1()", -1003);
        lawFault("w1(1)", -1004);
        lawFault("w1(1=)", -1005);
        lawFault("w1(1=1", -1006);
        lawFault("w1(1=1=1)", -1006);
        lawFault("w1(1=1]", -1006);
        lawFault("w1(1=1))", -1007);
        lawFault("w1(1=1);", -1008);
        lawFault("w1(1=1)w", -1007);
        lawFault("w1(1=1&)", -1007);
        lawFault("w1(1=1|)", -1007);
        lawFault("w1(!)", -1004);
        lawFault("w1((1=1)=1)", -1008);
        lawFault("w1((1)=1)", -1005);
        lawFault("w-1(1=1)", -1001);
        lawFault("w1-(1=1)", -1003);
        lawFault("w1**1(1=1)", -1003);
        lawFault("w[1(1=1)", -1003);
        lawFault("w[](1=1)", -1002);
        lawFault("w1](1=1)", -1002);
        lawFault("wpp(1=1)", -1002);
        lawFault("w1p(1=1)", -1002);
        lawFault("w123456(1=1)", -2006);
        lawFault("w000000", -2006);
        lawFault("w1(1=100000)", -2010);
        lawFault("w[[[[[[[1]]]]]]](1=1)", -5007);
        lawFault("w1(((((((1=1", -5008);
        lawFault("w1(!!!!!!1=1)", -5008);
        lawFault("w1(!(!([[[1]]]=1)))", -5008);
        lawFault("w1(!(!(1=[[1]])))", -5010);
        lawFault("w1(!(!([1]=1&1=[[", -5016);
        lawFault("c(!!!!!(1=1))", -5007);
        lawFault(times("c(p=1)", 16) + ";c", -4112);
        lawFault(times("c(p=1)", 16) + ";w", -4112);
        lawFault(times("c(p=1)", 16) + ";x", -1112);
        lawFault(times("c(p=1)", 16) + ";", -1112);
    }

    private static void refusedLengths() {
        MarginAlbum album = new MarginAlbum();
        for (int i = 0; i < 13; i++) {
            album.feed(0x61302c30, 0x3a317831, 0x3b000000, 0, 0);
        }
        int[] wrong = {0, -1, 161, Integer.MAX_VALUE, Integer.MIN_VALUE};
        for (int n : wrong) {
            BENCH.due("print " + n, album.print(n), -1);
        }
        for (int n : new int[] {0, -1, 121, Integer.MAX_VALUE, Integer.MIN_VALUE}) {
            BENCH.due("edits " + n, album.edits(n), -1);
        }
        for (int n : new int[] {0, -1, 241, Integer.MAX_VALUE, Integer.MIN_VALUE}) {
            BENCH.due("law " + n, album.law(n), -1);
        }
        BENCH.due("the tape stays", album.count(3), 260);
        BENCH.due("the first bytes only", album.print(8), 1);
        BENCH.due("all is empty then", album.count(3), 0);
        album.feed(0x61302c30, 0x3a317831, 0x3b000000, 0, 0);
        BENCH.due("print 21 of 20", album.print(21), -1);
        BENCH.due("edits 21 of 20", album.edits(21), -1);
        BENCH.due("law 21 of 20", album.law(21), -1);
        BENCH.due("the tape stays", album.count(3), 20);
        BENCH.due("a byte 0", album.print(20), -1009);
        BENCH.due("160 bytes", longText(160, album), -1159);
        BENCH.due("161 bytes", longText(161, album), -1);
    }

    private static int longText(int n, MarginAlbum album) {
        album.check(0);
        String text = times("a10,10:01x01", 11) + ";a1,1:1x1";
        Bench.feed(album, Bench.bytesOf(text + "?".repeat(n - text.length())));
        int got = album.print(n);
        return got == -1000 - text.length() ? -1159 : got;
    }

    private static void mirror() {
        MarginAlbum album = new MarginAlbum();
        BENCH.due("mirror of none", album.mirror(), 0);
        Bench.print(album, "a0,0:3x2;b5,1:1x1;c0,0:16x12;d13,2:3x1");
        Bench.edits(album, "#2!");
        BENCH.due("mirror", album.mirror(), 3);
        BENCH.due("from the left", album.figureIs(0, 1), 13);
        BENCH.due("from within", album.figureIs(1, 1), 10);
        BENCH.due("from the right", album.figureIs(3, 1), 0);
        BENCH.due("the top stays", album.figureIs(3, 2), 2);
        BENCH.due("who is out stays out", album.figureIs(2, 1), -1);
        album.mirror();
        BENCH.due("and back", album.figureIs(1, 1), 5);
    }

    private static void figureIs() {
        MarginAlbum album = Bench.printed("a0,0:4x4;b2,2:4x4;a3,3:1x1;c9,9:2x2;d9,9:2x2");
        int[] seen = {12, 15, 1, 0, 4};
        for (int i = 0; i < seen.length; i++) {
            BENCH.due("seen of " + i, album.figureIs(i, 5), seen[i]);
        }
        Bench.edits(album, "#4!");
        BENCH.due("seen of 3 then", album.figureIs(3, 5), 4);
        BENCH.due("who is out", album.figureIs(4, 0), -1);
        BENCH.due("seen of who is out", album.figureIs(4, 5), -1);
        BENCH.due("figure -1", album.figureIs(-1, 0), -1);
        BENCH.due("figure 12", album.figureIs(12, 0), -1);
        BENCH.due("what 6", album.figureIs(0, 6), -1);
        BENCH.due("what -1", album.figureIs(0, -1), -1);
    }
}
