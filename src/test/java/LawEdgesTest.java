/** What "THE LAW" says, sentence by sentence, on both sides of each boundary; promises 5, 9, 10. */
public final class LawEdgesTest {
    private static final Bench BENCH = new Bench("LawEdgesTest");

    public static void main(String[] args) {
        growsFrom0To99();
        fadesFrom0To99();
        tenthsFrom0To10();
        leftOutWhateverThePain();
        theFirstRuleThatHolds();
        partsAndTests();
        threeTests();
        lawAfterLaw();
        compared();
        fromTheLeftOn();
        thePerson();
        itsPain();
        itsFigures();
        itsCuts();
        theDayModulo100();
        daysAgo();
        noPersonInH();
        thirtyTwoBits();
        dividedBy0();
        asMuchAsMatters();
        BENCH.end();
    }

    /** PAIN of PERSON 1 after a DAY that it began with this PAIN. */
    private static void dueFrom(int before, String law, int after) {
        MarginAlbum album = Bench.printed("b0,0:2x2;b4,4:1x1;c9,9:3x3");
        album.pain(1, before);
        BENCH.due(law + " is a law", Bench.law(album, law) > 0, true);
        BENCH.due(law + " tried", album.tried(1, 11), after);
        album.days(1);
        BENCH.due("pain " + before + " by " + law, album.personIs(1, 0), after);
    }

    private static void due(String law, int after) {
        dueFrom(0, law, after);
    }

    /** Whether c leaves PERSON 1 out, by its C. */
    private static void dueLeftOut(String c, boolean isLeftOut) {
        MarginAlbum album = Bench.printed("b0,0:8x12");
        BENCH.due(c + " is a law", Bench.law(album, c) > 0, true);
        BENCH.due("cells by " + c, album.days(1), isLeftOut ? 96 : 192);
        BENCH.due("who showed by " + c, album.album(1, 4), isLeftOut ? 0 : 2);
    }

    /** "w by how much PAIN grows in a DAY (0 to 99)", "beyond its bounds the bound; none: 0". */
    private static void growsFrom0To99() {
        due("w0(1=1)", 0);
        due("w1(1=1)", 1);
        due("w98(1=1)", 98);
        due("w99(1=1)", 99);
        due("w100(1=1)", 99);
        due("w99(1=1);l1(1=1)", 98);
        due("w100(1=1);l1(1=1)", 98);
        due("w99999(1=1);l10(1=1)", 89);
        due("w99999*9999(1=1);l10(1=1)", 89);
        dueFrom(50, "w0-1(1=1)", 50);
        dueFrom(50, "w0-99999(1=1)", 50);
        dueFrom(50, "w1(1=2)", 50);
        dueFrom(98, "w1(1=1)", 99);
        dueFrom(99, "w1(1=1)", 99);
    }

    /** "l by how much it fades (0 to 99)". */
    private static void fadesFrom0To99() {
        dueFrom(99, "l0(1=1)", 99);
        dueFrom(99, "l1(1=1)", 98);
        dueFrom(99, "l98(1=1)", 1);
        dueFrom(99, "l99(1=1)", 0);
        dueFrom(99, "l99(1=1);w1(1=1)", 1);
        dueFrom(99, "l100(1=1);w1(1=1)", 1);
        dueFrom(99, "l99999(1=1);w10(1=1)", 10);
        dueFrom(50, "l0-1(1=1)", 50);
        dueFrom(50, "l1(1=2)", 50);
        dueFrom(1, "l1(1=1)", 0);
        dueFrom(0, "l1(1=1)", 0);
    }

    private static int seedThatDraws(int draw) {
        int x = 0;
        while ((25173 * x + 13849) % 65536 % 10 != draw) {
            x++;
        }
        return x;
    }

    private static void dueSlip(int draw, String law, boolean slips) {
        MarginAlbum album = new MarginAlbum();
        BENCH.due(law + " is a law", Bench.law(album, law), 1);
        album.seed(seedThatDraws(draw));
        BENCH.due("tried by " + law + " with " + draw, album.tried(1, 1), slips ? 1 : 0);
        BENCH.due("cells by " + law + " with " + draw, album.days(1), slips ? 176 : 192);
        BENCH.due("slip by " + law + " with " + draw, album.album(1, 5), slips ? 1 : 0);
    }

    /** "h tenths that the hand slips (0 to 10)", "With a DRAW below h the hand slips". */
    private static void tenthsFrom0To10() {
        for (int draw = 0; draw < 10; draw++) {
            for (int tenths = 0; tenths <= 11; tenths++) {
                dueSlip(draw, "h" + tenths + "(1=1)", draw < tenths);
            }
            dueSlip(draw, "h99999(1=1)", true);
            dueSlip(draw, "h0-1(1=1)", false);
            dueSlip(draw, "h10(1=2)", false);
            dueSlip(draw, "w10(1=1)", false);
        }
    }

    /** "c a PERSON is left out whatever the PAIN (any will do; without a c in THE LAW none is by it)". */
    private static void leftOutWhateverThePain() {
        dueLeftOut("c(1=1)", true);
        dueLeftOut("c(1=2)", false);
        dueLeftOut("c(1=2);c(1=1)", true);
        dueLeftOut("c(1=1);c(1=2)", true);
        dueLeftOut("c(1=2);c(1=2)", false);
        dueLeftOut("c(1/0=1);c(1=1)", true);
        dueLeftOut("c(1/0=1)", false);
        dueLeftOut("w0(1=1);c(p=1);l0(1=1)", true);
        dueLeftOut("w0(1=1);l0(1=1);h0(1=1)", false);
        dueLeftOut("c(p=2)", false);
        dueLeftOut("c(v=0)", true);
        // asked when PAIN has grown
        dueLeftOut("w7(1=1);c(v=7)", true);
        dueLeftOut("w7(1=1);c(v=0)", false);
        MarginAlbum album = Bench.printed("b0,0:8x12");
        Bench.law(album, "w0(1=1);c(p=1);c(1=1)");
        BENCH.due("by a c behind a w", album.days(1), 96);
        Bench.law(album, "w0(1=1)");
        BENCH.due("without a c in the next law", album.days(1), 192);
        Bench.law(album, "w0(1=1);l0(1=1);h0(1=1)");
        BENCH.due("without a c in one as long", album.days(1), 192);
        album.pain(1, 50);
        Bench.law(album, "c(1=2)");
        BENCH.due("at the bound, without a c that holds", album.days(1), 192);
        album.pain(1, 51);
        BENCH.due("above the bound, without a c that holds", album.days(1), 96);
    }

    /** "of the first RULE of w, l, h whose C holds the E". */
    private static void theFirstRuleThatHolds() {
        due("w1(1=1);w2(1=1)", 1);
        due("w1(1=2);w2(1=1);w4(1=1)", 2);
        due("w1(1=2);w2(1=2)", 0);
        due("l9(1=1);w3(1=1);w4(1=1)", 0);
        due("c(1=1);h10(1=1);w3(1=1)", 3);
        dueFrom(50, "w1(1=1);l2(1=1);l3(1=1);w5(1=1)", 49);
        dueFrom(50, "w1(1=1);l2(1=2);l3(1=1);w5(1=1)", 48);
        due("w0-5(1=1);w3(1=1)", 0);
        MarginAlbum album = new MarginAlbum();
        Bench.law(album, "h0(1=1);h10(1=1)");
        BENCH.due("the first h", album.tried(10, 1), 0);
        Bench.law(album, "h0(1=2);h10(1=1)");
        BENCH.due("the first h that holds", album.tried(10, 1), 10);
        Bench.law(album, "w5(p=9)");
        BENCH.due("none: 0", album.tried(10, 1), 0);
        BENCH.due("none for whom it does not hold: 0", album.tried(10, 10), 0);
        Bench.law(album, "w1(p=1);w2(p<3);w3(1=1)");
        album.days(1);
        int[] pain = {2, 1, 2, 3};
        for (int p = 0; p < 4; p++) {
            BENCH.due("each person's own rule, " + p, album.personIs(p, 0), pain[p]);
        }
    }

    /** "PARTS with a | between two, one of which must hold; a PART: TESTS with an &, all of which must; !TEST, (C)". */
    private static void partsAndTests() {
        due("w5(1=1|1=2)", 5);
        due("w5(1=2|1=1)", 5);
        due("w5(1=2|1=2)", 0);
        due("w5(1=2|1=2|1=1)", 5);
        due("w5(1=1&1=1)", 5);
        due("w5(1=1&1=2)", 0);
        due("w5(1=2&1=1)", 0);
        due("w5(1=1&1=1&1=2)", 0);
        due("w5(1=1|1=1&1=2)", 5);
        due("w5(1=2&1=1|1=1)", 5);
        due("w5(1=2&1=1|1=2)", 0);
        due("w5((1=1|1=1)&1=2)", 0);
        due("w5(1=2&(1=1|1=1))", 0);
        due("w5(1=1&1=1|1=2&1=1)", 5);
        due("w5(1=2&1=1|1=1&1=1)", 5);
        due("w5(!1=2)", 5);
        due("w5(!1=1)", 0);
        due("w5(!!1=1)", 5);
        due("w5(!1=2&1=2)", 0);
        due("w5(!1=1|1=1)", 5);
        due("w5(!(1=1|1=1))", 0);
        due("w5(!(1=1&1=2))", 5);
        due("w5(((1=1)))", 5);
        due("w5((1=2)|(1=1))", 5);
        due("w5(1=1&!1=2)", 5);
        due("w5(1=2|!1=2)", 5);
    }

    /** What of three TESTS A, B, D must hold. */
    private interface Truth {
        boolean of(boolean a, boolean b, boolean d);
    }

    private static void dueTruth(String c, Truth truth) {
        for (int bits = 0; bits < 8; bits++) {
            boolean a = (bits & 1) != 0;
            boolean b = (bits & 2) != 0;
            boolean d = (bits & 4) != 0;
            String text = c.replace("A", a ? "1=1" : "1=2").replace("B", b ? "2>1" : "1>1").replace("D", d ? "1<2" : "2<2");
            due("w5(" + text + ")", truth.of(a, b, d) ? 5 : 0);
        }
    }

    /** Each way to put three TESTS together by & | ! ( ), with each of them true and false. */
    private static void threeTests() {
        dueTruth("A&B", (a, b, d) -> a && b);
        dueTruth("A&(B)", (a, b, d) -> a && b);
        dueTruth("(A)&B", (a, b, d) -> a && b);
        dueTruth("(A)&(B)&(D)", (a, b, d) -> a && b && d);
        dueTruth("A&(B)&D", (a, b, d) -> a && b && d);
        dueTruth("A&(B&D)", (a, b, d) -> a && b && d);
        dueTruth("(A&B)&D", (a, b, d) -> a && b && d);
        dueTruth("A|B", (a, b, d) -> a || b);
        dueTruth("A|(B)", (a, b, d) -> a || b);
        dueTruth("(A)|B", (a, b, d) -> a || b);
        dueTruth("(A)|(B)|(D)", (a, b, d) -> a || b || d);
        dueTruth("A|(B|D)", (a, b, d) -> a || b || d);
        dueTruth("(A|B)|D", (a, b, d) -> a || b || d);
        dueTruth("A&B|D", (a, b, d) -> a && b || d);
        dueTruth("A|B&D", (a, b, d) -> a || b && d);
        dueTruth("A&(B|D)", (a, b, d) -> a && (b || d));
        dueTruth("(A|B)&D", (a, b, d) -> (a || b) && d);
        dueTruth("A|(B&D)", (a, b, d) -> a || b && d);
        dueTruth("(A&B)|D", (a, b, d) -> a && b || d);
        dueTruth("A&!B|D", (a, b, d) -> a && !b || d);
        dueTruth("!A&B", (a, b, d) -> !a && b);
        dueTruth("!A|B&D", (a, b, d) -> !a || b && d);
        dueTruth("A&!(B)", (a, b, d) -> a && !b);
        dueTruth("A|!(B|D)", (a, b, d) -> a || !(b || d));
        dueTruth("!(A&B)&D", (a, b, d) -> !(a && b) && d);
        dueTruth("!(A|B)|D", (a, b, d) -> !(a || b) || d);
        dueTruth("!(A&!(B|!D))", (a, b, d) -> !(a && !(b || !d)));
        dueTruth("!!A&(!(!B|D))", (a, b, d) -> a && b && !d);
        dueTruth("A&B&D|B&!D|!A&D", (a, b, d) -> a && b && d || b && !d || !a && d);
        dueTruth("((A)&((B)))|(((D))&A)", (a, b, d) -> a && b || d && a);
    }

    /** Each law is as if none had been before, each RULE as if none stood ahead of it. */
    private static void lawAfterLaw() {
        String[] laws = {"w5(!1=2&!1=2)", "w5(1=1)", "w5+2*3-1(!(!1=1|1=2))", "w5(1=1)", "w5(!!!1=2)", "w5(!!1=1)", "w5(1=1)",
            "w5(1=1&1=1&1=1|1=2)", "w5(1=1)", "w5(p=p&!1=2|1=2)", "w5(p=1|v>0)"};
        int[] due = {5, 5, 10, 5, 5, 5, 5, 5, 5, 5, 5};
        MarginAlbum album = new MarginAlbum();
        for (int i = 0; i < laws.length; i++) {
            BENCH.due(laws[i] + " is a law", Bench.law(album, laws[i]), 1);
            BENCH.due("after others, " + laws[i], album.tried(1, 11), due[i]);
        }
        due("w5(1=1+2/0);w3(!1=2)", 3);
        due("w5(1=1+2*3/0);w4(1=2&!1=2);w3(!(!1=1))", 3);
        due("w1+2*3/0(1=2);w3(!1=2)", 3);
    }

    /** "E, one of < > =, and E". */
    private static void compared() {
        int[] values = {-2147483648, -1, 0, 1, 99999};
        String[] texts = {"65536*32768", "0-1", "0", "1", "99999"};
        for (int i = 0; i < values.length; i++) {
            for (int j = 0; j < values.length; j++) {
                due("w5(" + texts[i] + "<" + texts[j] + ")", values[i] < values[j] ? 5 : 0);
                due("w5(" + texts[i] + ">" + texts[j] + ")", values[i] > values[j] ? 5 : 0);
                due("w5(" + texts[i] + "=" + texts[j] + ")", values[i] == values[j] ? 5 : 0);
            }
        }
        due("w5(2147*1000*1000<0)", 0);
        due("w5(2*3=1+5)", 5);
        due("w5(7/2>6%4)", 5);
    }

    /** "TERMS with + or - between two; a TERM: FACTORS with one of * / % between two; from the left on". */
    private static void fromTheLeftOn() {
        due("w9-3-2(1=1)", 4);
        due("w9-3+2(1=1)", 8);
        due("w9-[3+2](1=1)", 4);
        due("w2+3*4(1=1)", 14);
        due("w2*3+4(1=1)", 10);
        due("w2*[3+4](1=1)", 14);
        due("w90/6/3(1=1)", 5);
        due("w90/[6/3](1=1)", 45);
        due("w90/6*3(1=1)", 45);
        due("w17%10%4(1=1)", 3);
        due("w17%[10%4](1=1)", 1);
        due("w3*7%4(1=1)", 1);
        due("w3*[7%4](1=1)", 9);
        due("w7%4*3(1=1)", 9);
        due("w50-7*7+3(1=1)", 4);
        due("w50-8/4-20%6*2(1=1)", 44);
        due("w[[[[[[7]]]]]](1=1)", 7);
        due("w7(1=1)", 7);
        due("w00012(1=1)", 12);
        due("w99999/1111(1=1)", 90);
        due("w[0-7]/2+10(1=1)", 7);
        due("w[0-7]%2+10(1=1)", 9);
        due("w7/[0-2]+10(1=1)", 7);
        due("w7%[0-2]+10(1=1)", 11);
    }

    /** "p the PERSON". */
    private static void thePerson() {
        MarginAlbum album = new MarginAlbum();
        Bench.law(album, "w2*p+1(1=1)");
        album.days(1);
        for (int p = 0; p < 16; p++) {
            BENCH.due("w by p " + p, album.personIs(p, 0), 2 * p + 1);
        }
        Bench.law(album, "lp(1=1)");
        album.days(1);
        for (int p = 0; p < 16; p++) {
            BENCH.due("l by p " + p, album.personIs(p, 0), p + 1);
        }
        Bench.print(album, "a0,0:1x1;p15,11:1x1;h5,5:1x1");
        Bench.law(album, "c(p=15);c(p=0)");
        album.days(1);
        BENCH.due("c by p", album.album(1, 4), 128);
    }

    /** "v PAIN": asked ahead by w and l, and as it is then by c. */
    private static void itsPain() {
        dueFrom(0, "w7(v=0)", 7);
        dueFrom(1, "w7(v=0)", 1);
        dueFrom(99, "l9(v=99)", 90);
        dueFrom(98, "l9(v=99)", 98);
        dueFrom(20, "wv(1=1)", 40);
        dueFrom(20, "lv/2(1=1)", 10);
        dueFrom(20, "wv(1=1);lv(1=1)", 20);
        dueFrom(60, "wv(1=1);lv(1=1)", 60);
        dueFrom(20, "w30(1=1);l10(v>20)", 50);
    }

    /** "n how many FIGURES of that PERSON there are". */
    private static void itsFigures() {
        MarginAlbum album = Bench.printed(String.join(";", java.util.Collections.nCopies(11, "b0,0:1x1")) + ";c1,1:1x1");
        Bench.law(album, "wn(1=1)");
        album.days(1);
        int[] pain = {0, 11, 1, 0};
        for (int p = 0; p < 4; p++) {
            BENCH.due("figures of " + p, album.personIs(p, 0), pain[p]);
        }
        Bench.edits(album, "#0!;#1!;#11!");
        album.days(1);
        BENCH.due("those that are out are none", album.personIs(1, 0), 20);
        BENCH.due("nor the last one", album.personIs(2, 0), 1);
        Bench.print(album, String.join(";", java.util.Collections.nCopies(12, "d0,0:1x1")));
        album.days(1);
        BENCH.due("all twelve", album.personIs(3, 0), 12);
    }

    /** "s in how many CUTS of the album the PERSON showed whole". */
    private static void itsCuts() {
        MarginAlbum album = Bench.printed("b0,0:1x1;b3,3:1x1");
        album.pain(2, 60);
        Bench.law(album, "ws(1=1)");
        BENCH.due("never yet", album.tried(1, 11), 0);
        album.days(1);
        BENCH.due("never as it was asked", album.personIs(1, 0), 0);
        BENCH.due("once, for two figures", album.tried(1, 11), 1);
        BENCH.due("once, twice", album.tried(2, 11), 3);
        Bench.law(album, "w0(1=1)");
        album.days(30);
        Bench.law(album, "ws(p=1)");
        BENCH.due("in more than are remembered", album.tried(1, 11), 31);
        BENCH.due("who is not on the print", album.tried(1, 10), 0);
    }

    /** "d THE DAY modulo 100". */
    private static void theDayModulo100() {
        MarginAlbum album = new MarginAlbum();
        Bench.law(album, "w1(d=0);w2(d=1);w4(d=99)");
        BENCH.due("the first day is 0", album.tried(1, 11), 1);
        BENCH.due("then 1", album.tried(2, 11), 3);
        BENCH.due("then 2", album.tried(3, 11), 3);
        album.days(30);
        album.days(30);
        album.days(30);
        album.days(9);
        BENCH.due("the day", album.count(0), 99);
        BENCH.due("not yet 99", album.personIs(1, 0), 3);
        BENCH.due("99", album.tried(1, 11), 7);
        BENCH.due("0 after 99", album.tried(2, 11), 8);
        BENCH.due("1 again", album.tried(3, 11), 10);
        BENCH.due("2 again", album.tried(4, 11), 10);
    }

    /** "t how many DAYS ago (99 at most) the PERSON showed whole last (never: 99)". */
    private static void daysAgo() {
        MarginAlbum album = Bench.printed("b0,0:1x1");
        Bench.law(album, "wt(p=1)");
        BENCH.due("never", album.tried(1, 11), 99);
        Bench.law(album, "w0(1=1)");
        album.days(1);
        BENCH.due("the last one, too", album.tried(1, 3), 2);
        Bench.law(album, "wt(p=1);c(p=1)");
        BENCH.due("a day ago", album.tried(1, 11), 1);
        BENCH.due("then two days ago", album.tried(2, 11), 3);
        Bench.law(album, "c(p=1)");
        album.days(30);
        album.days(30);
        album.days(30);
        album.days(6);
        Bench.law(album, "wt(p=1)");
        BENCH.due("97 days ago", album.personIs(1, 4), 97);
        BENCH.due("97 days ago by the law", album.tried(1, 11), 97);
        Bench.law(album, "c(p=1)");
        album.days(1);
        BENCH.due("98 days ago", album.personIs(1, 4), 98);
        album.days(1);
        BENCH.due("99 days ago", album.personIs(1, 4), 99);
        album.days(1);
        BENCH.due("99 at most", album.personIs(1, 4), 99);
        Bench.law(album, "w7(t=99&p=1)");
        BENCH.due("99 at most by the law", album.tried(1, 11), 7);
    }

    /** "(p, v, n, s, t in h 0)". */
    private static void noPersonInH() {
        MarginAlbum album = Bench.printed("a0,0:1x1;b1,1:1x1;p2,2:1x1");
        for (int p = 0; p < 16; p++) {
            album.pain(p, 20);
        }
        album.days(2);
        for (char letter : "pvnst".toCharArray()) {
            Bench.law(album, "h10(" + letter + "=0)");
            BENCH.due(letter + " is 0", album.tried(10, 1), 10);
            Bench.law(album, "h10-" + letter + "(1=1)");
            BENCH.due(letter + " is 0 in E", album.tried(10, 1), 10);
            Bench.law(album, "h10/" + letter + "(1=1)");
            BENCH.due(letter + " divides not", album.tried(10, 1), 0);
        }
        Bench.law(album, "h10(d=2)");
        BENCH.due("d is the day", album.tried(1, 1), 1);
        BENCH.due("on that day alone", album.tried(10, 1), 1);
        Bench.law(album, "h10(d=0)");
        BENCH.due("d is not 0", album.tried(10, 1), 0);
    }

    /** "All is reckoned with 32 bits, as the machine does". */
    private static void thirtyTwoBits() {
        due("w65536*65536+5(1=1)", 5);
        due("w65536*65535+65541(1=1)", 5);
        due("w65536*32768(1=1)", 0);
        due("w65536*32768-1(1=1);l1(1=1)", 98);
        due("w5(65536*32768<0)", 5);
        due("w5(65536*32768-1>0)", 5);
        due("w5(65536*32768-1+1<0)", 5);
        due("w5(65536*32767+65535>0)", 5);
        due("w5(65536*32767+65535+1<0)", 5);
        due("w5([65536*32768]/[0-1]=65536*32768)", 5);
        due("w5([65536*32768]%[0-1]=0)", 5);
        due("w5([0-1]*[65536*32768]=65536*32768)", 5);
        due("w99999*99999%1000(1=1)", 99);
        due("w5(99999*99999=14098*10*10000+65409)", 5);
        due("w5(99999*99999/1000=1409*1000+865)", 5);
        due("w5(99999*99999/10000=14098*10+6)", 5);
        due("w5(0-65536*32768=65536*32768)", 5);
    }

    /** "what is divided by 0 is REFUSED: then the whole C of the RULE does not hold, the E of it is 0". */
    private static void dividedBy0() {
        for (String zero : new String[] {"0", "00000", "[3-3]", "[p-1]", "[65536*65536]"}) {
            for (String divides : new String[] {"/", "%"}) {
                due("w5" + divides + zero + "(1=1);w3(1=1)", 0);
                due("w5+1" + divides + zero + "(1=1);w3(1=1)", 0);
                due("w1" + divides + zero + "+5(1=1);w3(1=1)", 0);
                due("w[1" + divides + zero + "]*0+5(1=1);w3(1=1)", 0);
                due("w5(1" + divides + zero + "=1);w3(1=1)", 3);
                due("w5(1=1" + divides + zero + ");w3(1=1)", 3);
                due("w5(!1" + divides + zero + "=1);w3(1=1)", 3);
                due("w5(!!1" + divides + zero + "=1);w3(1=1)", 3);
                due("w5((1" + divides + zero + "=1)|1=1);w3(1=1)", 3);
                due("w5(!(1" + divides + zero + "=1&1=2));w3(1=1)", 3);
                due("w5(0*[1" + divides + zero + "]=0);w3(1=1)", 3);
            }
        }
        due("w5/1(1=1)", 5);
        due("w5%1(1=1)", 0);
        due("w0/5(1=1);w3(1=1)", 0);
        due("w5(0/5=0);w3(1=1)", 5);
        due("w5(0%5=0);w3(1=1)", 5);
        dueFrom(50, "l5/0(1=1);l3(1=1)", 50);
        dueFrom(50, "l5(1/0=1);l3(1=1)", 47);
        due("w5/0(1=2);w3(1=1)", 3);
        MarginAlbum album = new MarginAlbum();
        Bench.law(album, "h10/0(1=1);h10(1=1)");
        BENCH.due("h whose E is refused", album.tried(10, 1), 0);
        Bench.law(album, "h0(1/0=0);h10(1=1)");
        BENCH.due("h whose C is refused", album.tried(10, 1), 10);
    }

    /** "Of a C as much is asked, from the left, as matters". */
    private static void asMuchAsMatters() {
        due("w5(1=1|1/0=1);w3(1=1)", 5);
        due("w5(1=2|1/0=1);w3(1=1)", 3);
        due("w5(1/0=1|1=1);w3(1=1)", 3);
        due("w5(1=2|1=1|1/0=1);w3(1=1)", 5);
        due("w5(1=2|1/0=1|1=1);w3(1=1)", 3);
        due("w5(1=1&1=1|1/0=1);w3(1=1)", 5);
        due("w5(1=2&1/0=1|1=1);w3(1=1)", 5);
        due("w5(1=1&1/0=1|1=1);w3(1=1)", 3);
        due("w5(1/0=1&1=2|1=1);w3(1=1)", 3);
        due("w5(1=1&1=2&1/0=1|1=1);w3(1=1)", 5);
        due("w5(1=2&1/0=1&1=1|1=1);w3(1=1)", 5);
        due("w5(!(1=2&1/0=1));w3(1=1)", 5);
        due("w5(!(1=1|1/0=1));w3(1=1)", 3);
        due("w5(!(1=1|1/0=1)|1=1);w3(1=1)", 5);
        due("w5(!(1=1&1/0=1));w3(1=1)", 3);
        due("w5((1=1|1/0=1)&(1=1|1/0=1));w3(1=1)", 5);
        due("w5((1=2|1/0=1)&1=2|1=1);w3(1=1)", 3);
        due("w5(1=2&(1/0=1|1=1)|1=1);w3(1=1)", 5);
        due("w5(1=1|(1/0=1&1=1));w3(1=1)", 5);
        due("w5(1=1&1/0=1);w3(1=1)", 3);
        due("w5(1=2&1/0=1);w3(1=1)", 3);
        // where nothing is divided by 0, what is skipped is no matter
        due("w5(p=0&6/[1-p]>0|p=1);w3(1=1)", 5);
        due("w5(p=1&6/p=6);w3(1=1)", 5);
    }
}
