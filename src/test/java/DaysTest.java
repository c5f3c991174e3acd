/** Promises 5, 9, 10, 21 and what the law says: days, tried ones, the album. */
public final class DaysTest {
    private static final Bench BENCH = new Bench("DaysTest");

    public static void main(String[] args) {
        sums();
        refusals();
        conditions();
        letters();
        painByDay();
        leftOut();
        slips();
        tried();
        album();
        noCut();
        longTimes();
        BENCH.end();
    }

    /** PAIN of PERSON 1 after a DAY by the law. */
    private static int painBy(String law) {
        MarginAlbum album = Bench.printed("b0,0:2x2;b4,4:1x1;c9,9:3x3");
        if (Bench.law(album, law) < 1) {
            return -99;
        }
        album.days(1);
        return album.personIs(1, 0);
    }

    private static void dueBy(String law, int pain) {
        BENCH.due("pain by " + law, painBy(law), pain);
    }

    private static void sums() {
        dueBy("w7-2-1(1=1)", 4);
        dueBy("w2+3*4(1=1)", 14);
        dueBy("w3*4+2(1=1)", 14);
        dueBy("w[2+3]*4(1=1)", 20);
        dueBy("w100/7/2(1=1)", 7);
        dueBy("w100-60/7*3%5(1=1)", 96);
        dueBy("w17%5*3(1=1)", 6);
        dueBy("w2*17%5(1=1)", 4);
        dueBy("w1-2*3+9(1=1)", 4);
        dueBy("w0-5(1=1)", 0);
        dueBy("w0-[0-5](1=1)", 5);
        dueBy("w[0-7]/2+10(1=1)", 7);
        dueBy("w[0-7]%4+10(1=1)", 7);
        dueBy("w99999(1=1)", 99);
        dueBy("w00005(1=1)", 5);
        dueBy("w65536*65536+5(1=1)", 5);
        dueBy("w65536*32768(1=1)", 0);
        dueBy("w[65536*32768-1]/99999(1=1)", 99);
        dueBy("w[65536*32768]/[0-1]+[65536*32768]+8(1=1)", 8);
        dueBy("w[65536*32768]%[0-1]+8(1=1)", 8);
    }

    private static void refusals() {
        dueBy("w5/0(1=1);w3(1=1)", 0);
        dueBy("w5%0(1=1)", 0);
        dueBy("w7+5/0*0(1=1)", 0);
        dueBy("w5/[p-1](1=1)", 0);
        dueBy("w5(1/0=1);w3(1=1)", 3);
        dueBy("w5(1=1/0);w3(1=1)", 3);
        dueBy("w5(!1/0=1);w3(1=1)", 3);
        dueBy("w5(!(!1%0=1));w3(1=1)", 3);
        dueBy("w5(1/0=1|1=1);w3(1=1)", 3);
        dueBy("w5(1=1|1/0=1);w3(1=1)", 5);
        dueBy("w5(1=2&1/0=1);w3(1=1)", 3);
        dueBy("w5(!(1=2&1/0=1));w3(1=1)", 5);
        dueBy("w5(1=2&1/0=1|1=1);w3(1=1)", 5);
        dueBy("w5(1=1&1/0=1|1=1);w3(1=1)", 3);
        dueBy("w5((1=1|1/0=1)&1=1);w3(1=1)", 5);
        dueBy("w5((1/0=1|1=1)|1=1);w3(1=1)", 3);
        dueBy("w5(1=2|1=2|1/0=1|1=1);w3(1=1)", 3);
    }

    private static void conditions() {
        dueBy("w5(1<2)", 5);
        dueBy("w5(2<2)", 0);
        dueBy("w5(2>1)", 5);
        dueBy("w5(2>2)", 0);
        dueBy("w5(2=2)", 5);
        dueBy("w5(!2=2)", 0);
        dueBy("w5(!!2=2)", 5);
        dueBy("w5(!2=2|1=1)", 5);
        dueBy("w5(!(2=2|1=1))", 0);
        dueBy("w5(!1=2&!2=3)", 5);
        dueBy("w5(1=1|1=1&1=2)", 5);
        dueBy("w5((1=1|1=1)&1=2)", 0);
        dueBy("w5(1=2&1=1|1=1)", 5);
        dueBy("w5(1=1&1=2|1=2|1=1&1=1)", 5);
        dueBy("w5(1+1*2=6/2)", 5);
        dueBy("w5(1=2);w6(1=1);w7(1=1)", 6);
        dueBy("l9(1=1);h9(1=1);c(1=2);w6(1=1);l2(1=1)", 0);
        dueBy("w6(1=2)", 0);
    }

    private static void letters() {
        dueBy("wp(1=1)", 1);
        dueBy("wn(1=1)", 2);
        dueBy("wt(1=1)", 99);
        dueBy("ws+5(1=1)", 5);
        MarginAlbum album = Bench.printed("b0,0:2x2;b4,4:1x1");
        album.pain(1, 20);
        Bench.law(album, "wv(p=1)");
        album.days(1);
        BENCH.due("v", album.personIs(1, 0), 40);
        Bench.law(album, "wd*10(p=2);wt(p=3);ws(p=1);lt(p=1)");
        album.days(1);
        BENCH.due("d", album.personIs(2, 0), 10);
        BENCH.due("t of who never showed", album.personIs(3, 0), 99);
        BENCH.due("s and t of who showed a day ago", album.personIs(1, 0), 40);
        album.pain(1, 60);
        album.days(1);
        BENCH.due("more by 2, less by 1", album.personIs(1, 0), 61);
        album.pain(1, 50);
        album.days(1);
        BENCH.due("more by 2, less by 2", album.personIs(1, 0), 50);
    }

    private static void painByDay() {
        MarginAlbum album = new MarginAlbum();
        album.pain(0, 90);
        album.pain(1, 5);
        Bench.law(album, "w20(p=0);l15(p<2)");
        album.days(1);
        BENCH.due("both at once, then the bound", album.personIs(0, 0), 95);
        BENCH.due("not below 0", album.personIs(1, 0), 0);
        Bench.law(album, "wv(1=1);lv(1=1)");
        album.days(1);
        BENCH.due("both asked ahead", album.personIs(0, 0), 95);
    }

    private static void leftOut() {
        MarginAlbum album = Bench.printed("a0,0:8x12;b8,0:8x12");
        Bench.law(album, "w10(p=0);c(v=10);c(1/0=1);c(1=2)");
        BENCH.due("c is asked after pain grew", album.days(1), 96);
        BENCH.due("who showed", album.album(1, 4), 2);
        BENCH.due("no c any more", album.days(1), 192);
        Bench.law(album, "w0(1=1)");
        album.pain(0, 51);
        BENCH.due("painful ones without a c", album.days(1), 96);
        BENCH.due("today knows no c", album.today(2), 8);
        Bench.law(album, "c(p=1)");
        BENCH.due("nothing is left", album.days(1), 0);
        BENCH.due("today knows no c", album.today(2), 8);
    }

    private static void slips() {
        // from 1 the draws are 2, 7, 2, 5, 0 .. as their rule makes them
        MarginAlbum album = new MarginAlbum();
        int x = 1;
        Bench.law(album, "h5+p+v+n+s+t(1=1)");
        int slipped = 0;
        for (int day = 0; day < 20; day++) {
            x = (25173 * x + 13849) % 65536;
            album.days(1);
            int due = x % 10 < 5 ? 1 : 0;
            slipped += due;
            BENCH.due("x of day " + day, album.count(4), x);
            BENCH.due("slip of day " + day, album.album(1, 5), due);
            BENCH.due("high of day " + day, album.album(1, 3), 12 - due);
            BENCH.due("top of day " + day, album.album(1, 1), due);
        }
        BENCH.due("some slips, not all", slipped > 0 && slipped < 20, true);
        Bench.law(album, "h99(1=1)");
        BENCH.due("always", album.tried(30, 1), 30);
        Bench.law(album, "h0-3(1=1)");
        BENCH.due("never", album.tried(30, 1), 0);
        Bench.law(album, "h10(p+v+n+s+t>0)");
        BENCH.due("persons' letters are 0 in h", album.tried(30, 1), 0);
        Bench.law(album, "h10(d=25)");
        BENCH.due("but the day is told", album.tried(30, 1), 1);
        Bench.print(album, "a0,1:16x11");
        album.pain(0, 99);
        Bench.law(album, "h10(1=1)");
        BENCH.due("a cut of one row stays", album.days(1), 16);
        BENCH.due("but it slipped", album.album(1, 5), 1);
        BENCH.due("its top", album.album(1, 1), 0);
        Bench.print(album, "a0,2:16x10;b0,1:1x1");
        BENCH.due("a cut of two rows loses one", album.days(1), 16);
        BENCH.due("its top", album.album(1, 1), 1);
        Bench.print(album, "a0,0:1x1;b0,1:1x1");
        album.pain(0, 0);
        album.days(1);
        BENCH.due("who showed after the slip", album.album(1, 4), 2);
    }

    private static void tried() {
        MarginAlbum album = Bench.printed("a0,0:8x12;b8,0:8x12");
        Bench.law(album, "w26(p=0);h10(d=1)");
        BENCH.due("cells", album.tried(2, 0), 192 + 88);
        BENCH.due("slips", album.tried(2, 1), 1);
        BENCH.due("cells of the last", album.tried(2, 2), 88);
        BENCH.due("cells of the third", album.tried(3, 2), 96);
        BENCH.due("whole in the last", album.tried(3, 3), 2);
        BENCH.due("whole in the one that slipped", album.tried(2, 3), 0);
        BENCH.due("pain then", album.tried(3, 10), 78);
        BENCH.due("pain of the last person", album.tried(3, 25), 0);
        BENCH.due("nothing is changed: x", album.count(4), 1);
        BENCH.due("nothing is changed: day", album.count(0), 0);
        BENCH.due("nothing is changed: pain", album.count(6), 0);
        BENCH.due("nothing is changed: shown", album.personIs(1, 3), 0);
        BENCH.due("nothing is changed: album", album.album(1, 2), -2);
        int[][] wrong = {{0, 0}, {31, 0}, {-1, 0}, {1, -1}, {1, 4}, {1, 9}, {1, 26},
            {Integer.MAX_VALUE, 0}, {1, Integer.MIN_VALUE}};
        for (int[] call : wrong) {
            BENCH.due("tried " + call[0] + " " + call[1], album.tried(call[0], call[1]), -1);
        }
        BENCH.due("days 0", album.days(0), -1);
        BENCH.due("days 31", album.days(31), -1);
        BENCH.due("days least", album.days(Integer.MIN_VALUE), -1);
        BENCH.due("no day went by", album.count(0), 0);
        BENCH.due("days 3", album.days(3), 192 + 88 + 96);
    }

    private static void album() {
        MarginAlbum album = Bench.printed("a0,0:8x12;b8,0:8x12");
        album.days(1);
        album.pain(1, 80);
        album.days(30);
        BENCH.due("30 days ago", album.album(30, 2), 8);
        BENCH.due("31 days ago", album.album(31, 2), -1);
        album.pain(1, 0);
        album.days(1);
        int[] last = {0, 0, 16, 12, 3, 0};
        int[] ahead = {0, 0, 8, 12, 1, 0};
        for (int what = 0; what < 6; what++) {
            BENCH.due("1 day ago " + what, album.album(1, what), last[what]);
            BENCH.due("2 days ago " + what, album.album(2, what), ahead[what]);
            BENCH.due("30 days ago " + what, album.album(30, what), ahead[what]);
        }
        BENCH.due("album 0", album.album(0, 0), -1);
        BENCH.due("album -1", album.album(-1, 0), -1);
        BENCH.due("what 6", album.album(1, 6), -1);
        BENCH.due("what -1", album.album(1, -1), -1);
        BENCH.due("all are counted", album.count(5), 32);
        BENCH.due("more than are remembered", album.personIs(0, 3), 32);
        BENCH.due("b", album.personIs(1, 3), 2);
        MarginAlbum young = new MarginAlbum();
        young.days(2);
        BENCH.due("3 days ago", young.album(3, 0), -2);
        BENCH.due("NONE ahead of -2", young.album(3, 6), -1);
    }

    private static void noCut() {
        MarginAlbum album = Bench.printed("a0,0:16x12;b3,3:1x1");
        album.pain(0, 99);
        Bench.law(album, "h10(1=1)");
        BENCH.due("no cells", album.days(1), 0);
        int[] parts = {0, 0, 0, 0, 0, 1};
        for (int what = 0; what < 6; what++) {
            BENCH.due("no cut " + what, album.album(1, what), parts[what]);
        }
        BENCH.due("it counts", album.count(5), 1);
        BENCH.due("nobody showed", album.personIs(1, 3), 0);
        BENCH.due("slips of no cut", album.tried(2, 1), 2);
        Bench.print(album, "a0,0:15x12;a15,0:1x11;b15,11:1x1");
        BENCH.due("one cell", album.days(1), 1);
        BENCH.due("who is in it", album.album(1, 4), 2);
        BENCH.due("who is in it", album.tried(1, 3), 2);
    }

    private static void longTimes() {
        MarginAlbum album = Bench.printed("a0,0:1x1");
        album.days(1);
        album.pain(0, 99);
        for (int i = 0; i < 3; i++) {
            album.days(30);
        }
        album.days(7);
        BENCH.due("98 days ago", album.personIs(0, 4), 98);
        album.days(1);
        BENCH.due("99 days ago", album.personIs(0, 4), 99);
        album.days(30);
        BENCH.due("99 at most", album.personIs(0, 4), 99);
        Bench.law(album, "wd(p=5)");
        BENCH.due("the day is told modulo 100", album.tried(1, 15), 29);
        album.pain(0, 0);
        for (int day = 129; day + 30 < 9999; day += 30) {
            album.days(30);
        }
        album.days(20);
        BENCH.due("days gone by", album.count(0), 9989);
        BENCH.due("tried while days are left", album.tried(1, 3), 1);
        BENCH.due("as many as can are tried", album.tried(30, 0), 10 * 192);
        BENCH.due("as many as can go by", album.days(30), 10 * 192);
        BENCH.due("the last day", album.count(0), 9999);
        BENCH.due("the last ones", album.album(30, 2), 16);
        int x = album.count(4);
        BENCH.due("none goes by", album.days(30), 0);
        BENCH.due("no draw either", album.count(4), x);
        BENCH.due("tried: cells", album.tried(1, 0), 0);
        BENCH.due("tried: slips", album.tried(1, 1), 0);
        BENCH.due("tried: the last one", album.tried(1, 2), 0);
        BENCH.due("tried: who showed", album.tried(1, 3), 0);
        BENCH.due("tried: pain", album.tried(1, 15), album.personIs(5, 0));
        BENCH.due("all are counted", album.personIs(0, 3), 9999 - 128);
    }
}
