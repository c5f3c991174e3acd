/** "THE LAW" as a text, sentence by sentence, on both sides of each boundary; promise 5. */
public final class LawTextEdgesTest {
    private static final Bench BENCH = new Bench("LawTextEdgesTest");
    private static final Standing TEXT = new Standing(BENCH, Bench::law, "b2,3:4x5");
    private static final String DIGITS = "0123456789";
    private static final String LETTERS = "pvnsdt";
    private static final String JOINS = "+-*/%";
    private static final String FACTOR = "[" + DIGITS + LETTERS;
    private static final String TEST = "!(" + FACTOR;

    public static void main(String[] args) {
        noneAtFirst();
        rulesOfFourLetters();
        whatCanStandInE();
        whatCanStandInC();
        theEnd();
        sixthDigit();
        seventeenthRule();
        sevenOpenOnes();
        closedOnesDontCount();
        aNotIsOpenTillItsTestEnds();
        whatCantStandIsNoSeventh();
        firstFromTheLeft();
        theOneBeforeStaysByAFault();
        inPlaceOfTheOneBefore();
        atMost240Bytes();
        firstBytesOfTheTape();
        BENCH.end();
    }

    private static String rules(String rule, int n) {
        return String.join(";", java.util.Collections.nCopies(n, rule));
    }

    /** "no blanks (none at first)". */
    private static void noneAtFirst() {
        MarginAlbum album = new MarginAlbum();
        BENCH.due("no rules", album.count(2), 0);
        album.pain(0, 50);
        album.days(1);
        BENCH.due("no pain more or less", album.count(6), 50);
        BENCH.due("no slip", album.album(1, 5), 0);
        TEXT.due(" w1(1=1)", -1000);
        TEXT.due("w 1(1=1)", -1001);
        TEXT.due("w1(1=1 )", -1006);
        TEXT.due("w1(1=1) ", -1007);
    }

    /** "RULES .. a letter, E, and (C), of c only (C)". */
    private static void rulesOfFourLetters() {
        TEXT.due("w1(1=1)", 1);
        TEXT.due("l1(1=1)", 1);
        TEXT.due("h1(1=1)", 1);
        TEXT.due("c(1=1)", 1);
        TEXT.due("c1(1=1)", -1001);
        TEXT.due("w(1=1)", -1001);
        TEXT.due("l(1=1)", -1001);
        TEXT.due("h(1=1)", -1001);
        TEXT.due("w1", -1002);
        TEXT.due("w1;", -1002);
        TEXT.due("c", -1001);
        TEXT.due("c()", -1002);
        TEXT.due("w1()", -1003);
    }

    /** "1 what can't stand there": E, TERMS, FACTORS. */
    private static void whatCanStandInE() {
        TEXT.behind("", "wlhc");
        for (String front : new String[] {"w", "l", "h", "w[", "w[[", "c(p=", "c(p<", "c(p>", "c(p=[", "c(p=p);w"}) {
            TEXT.behind(front, FACTOR);
        }
        for (int i = 0; i < JOINS.length(); i++) {
            TEXT.behind("w1" + JOINS.charAt(i), FACTOR);
            TEXT.behind("c(1" + JOINS.charAt(i), FACTOR);
            TEXT.behind("c(1=1" + JOINS.charAt(i), FACTOR);
        }
        for (int i = 0; i < LETTERS.length(); i++) {
            TEXT.behind("w" + LETTERS.charAt(i), JOINS + "(");
        }
        TEXT.behind("w1", DIGITS + JOINS + "(");
        TEXT.behind("w1234", DIGITS + JOINS + "(");
        TEXT.behind("w12345", DIGITS + JOINS + "(");
        TEXT.behind("w1+1", DIGITS + JOINS + "(");
        TEXT.behind("w[1", DIGITS + JOINS + "]");
        TEXT.behind("w[p", JOINS + "]");
        TEXT.behind("w[p]", JOINS + "(");
        TEXT.behind("w[[p]", JOINS + "]");
    }

    /** "1 what can't stand there": C, PARTS, TESTS. */
    private static void whatCanStandInC() {
        TEXT.behind("c", "(");
        for (String front : new String[] {"c(", "w1(", "c(!", "c((", "c(!(", "c(!!", "c(p=p&", "c(p=p|", "c((p=p&"}) {
            TEXT.behind(front, TEST);
        }
        TEXT.behind("c(1", DIGITS + JOINS + "<>=");
        TEXT.behind("c(p", JOINS + "<>=");
        TEXT.behind("c(!p", JOINS + "<>=");
        TEXT.behind("c([1", DIGITS + JOINS + "]");
        TEXT.behind("c([p]", JOINS + "<>=");
        TEXT.behind("c(p=p", JOINS + "&|)");
        TEXT.behind("c(p=1", DIGITS + JOINS + "&|)");
        TEXT.behind("c(p=[p", JOINS + "]");
        TEXT.behind("c(p=[p]", JOINS + "&|)");
        TEXT.behind("c(!p=p", JOINS + "&|)");
        TEXT.behind("c((p=p", JOINS + "&|)");
        TEXT.behind("c((p=p)", "&|)");
        TEXT.behind("c(!(p=p)", "&|)");
        TEXT.behind("c(p=p&p=p", JOINS + "&|)");
        TEXT.behind("c(p=p|p=p", JOINS + "&|)");
        TEXT.behind("c(p=p)", ";");
        TEXT.behind("w1(p=p)", ";");
        TEXT.behind("c((p=p))", ";");
        TEXT.behind("c(p=p);", "wlhc");
        TEXT.behind("c(p=p);c", "(");
    }

    /** "(the end, too)". */
    private static void theEnd() {
        String first = "w[1+p]*22(!(v<3)&n=1|t>[99])";
        String text = first + ";c(p=1)";
        for (int n = 1; n < text.length(); n++) {
            if (n == first.length()) {
                TEXT.due(first, 1);
            } else {
                TEXT.noEndBehind(text.substring(0, n));
            }
        }
        TEXT.due(text, 2);
        TEXT.noEndBehind(text + ";");
    }

    /** "a number of one to five digits", "2 a sixth digit, at it". */
    private static void sixthDigit() {
        TEXT.due("w0(1=1)", 1);
        TEXT.due("w00000(1=1)", 1);
        TEXT.due("w99999(1=1)", 1);
        TEXT.due("w000000(1=1)", -2006);
        TEXT.due("w100000(1=1)", -2006);
        TEXT.due("w1+99999(1=1)", 1);
        TEXT.due("w1+999990(1=1)", -2008);
        TEXT.due("w[99999](1=1)", 1);
        TEXT.due("w[999991](1=1)", -2007);
        TEXT.due("c(99999=1)", 1);
        TEXT.due("c(999999=1)", -2007);
        TEXT.due("c(1=99999)", 1);
        TEXT.due("c(1=999999)", -2009);
        TEXT.due("w1(1=1);w000001", -2014);
    }

    /** "RULES (16 at most)", "4 a 17th RULE, at its letter (if that can stand there)". */
    private static void seventeenthRule() {
        TEXT.due(rules("c(p=1)", 15), 15);
        String sixteen = rules("c(p=1)", 16);
        TEXT.due(sixteen, 16);
        for (char letter : "wlhc".toCharArray()) {
            TEXT.due(sixteen + ";" + letter, -4112);
            TEXT.due(sixteen + ";" + letter + "?", -4112);
        }
        TEXT.due(rules("c(p=1)", 17), -4112);
        TEXT.due(sixteen + ";x", -1112);
        TEXT.due(sixteen + ";W", -1112);
        TEXT.due(sixteen + ";;", -1112);
        TEXT.due(sixteen + ";", -1112);
        TEXT.due(sixteen + "?", -1111);
        TEXT.due(rules("c(p=1)", 15) + ";x", -1105);
    }

    /** "5 a seventh of ( [ ! that are open in one another, at it (the ( of the RULE counts; .. the E .. ahead of it)". */
    private static void sevenOpenOnes() {
        TEXT.due("w[[[[[[1]]]]]](1=1)", 1);
        TEXT.due("w[[[[[[[1]]]]]]](1=1)", -5007);
        TEXT.due("w[[[[[[1]]]]]]((((((1=1))))))", 1);
        TEXT.due("c((((((1=1))))))", 1);
        TEXT.due("c(((((((1=1)))))))", -5007);
        TEXT.due("w1((((((1=1))))))", 1);
        TEXT.due("w1(((((((1=1)))))))", -5008);
        TEXT.due("c(!!!!!1=1)", 1);
        TEXT.due("c(!!!!!!1=1)", -5007);
        TEXT.due("c([[[[[1]]]]]=1)", 1);
        TEXT.due("c([[[[[[1]]]]]]=1)", -5007);
        TEXT.due("c(1=[[[[[1]]]]])", 1);
        TEXT.due("c(1=[[[[[[1]]]]]])", -5009);
        TEXT.due("c(!(!([[1]]=1)))", -5007);
        TEXT.due("c(!(!([1]=1)))", 1);
        TEXT.due("c((!(!([", -5007);
        TEXT.due("c(([!", -1004);
        TEXT.due("c((((((!", -5007);
        TEXT.due("c((((((([", -5007);
        TEXT.due("c(!!!!!(", -5007);
        TEXT.due("c(!!!!![", -5007);
        TEXT.due("c([[[[[[", -5007);
    }

    /** "that are open in one another": those that are closed do not count, nor those of another RULE. */
    private static void closedOnesDontCount() {
        TEXT.due("c(" + String.join("&", java.util.Collections.nCopies(8, "(1=1)")) + ")", 1);
        TEXT.due("c(" + String.join("|", java.util.Collections.nCopies(8, "[1]=[1]")) + ")", 1);
        TEXT.due("w" + String.join("+", java.util.Collections.nCopies(8, "[[1]]")) + "(1=1)", 1);
        TEXT.due("c((((1=1)&1=1)&((((1=1))))))", 1);
        TEXT.due("c((((1=1)&1=1)&(((((1=1)))))))", -5019);
        TEXT.due("c((((((1=1))))));c((((((1=1))))))", 2);
        TEXT.due("c((((((1=1))))));c(((((((1=1)))))))", -5024);
        TEXT.due("w[[[[[[1]]]]]](1=1);w[[[[[[1]]]]]](1=1)", 2);
    }

    /** "a ! is open till its TEST ends". */
    private static void aNotIsOpenTillItsTestEnds() {
        TEXT.due("c(" + String.join("&", java.util.Collections.nCopies(8, "!1=1")) + ")", 1);
        TEXT.due("c(" + String.join("|", java.util.Collections.nCopies(8, "!1=1")) + ")", 1);
        TEXT.due("c(!!!!!1=1&!!!!!1=1)", 1);
        TEXT.due("c(!!!!(1=1)|(((((1=1))))))", 1);
        TEXT.due("c(!!!!(1=1)|((((((1=1)))))))", -5017);
        TEXT.due("c(!!!![1]=[1])", 1);
        TEXT.due("c(!!!!![1]=1)", -5007);
        TEXT.due("c(!!!!!1=[1])", -5009);
        TEXT.due("c(!!!!!1=1&[[[[[1]]]]]=1)", 1);
        TEXT.due("c(!!!!!1=1&[[[[[[1]]]]]]=1)", -5016);
        TEXT.due("c((!1=1)&(((((1=1))))))", 1);
    }

    /** A ( [ ! that can't stand there is a FAULT 1, however many are open. */
    private static void whatCantStandIsNoSeventh() {
        TEXT.due("c((((((1(", -1008);
        TEXT.due("c((((((1[", -1008);
        TEXT.due("c((((((1!", -1008);
        TEXT.due("c((((((1=(", -1009);
        TEXT.due("c((((((1=!", -1009);
        TEXT.due("c((((((1=[", -5009);
        TEXT.due("w[[[[[[(", -1007);
        TEXT.due("w[[[[[[!", -1007);
        TEXT.due("c((((((1=1)(", -1011);
    }

    /** "FAULTS, the first from the left". */
    private static void firstFromTheLeft() {
        TEXT.due("w[[[[[[[123456", -5007);
        TEXT.due("w123456[[[[[[[", -2006);
        TEXT.due("x123456", -1000);
        TEXT.due("w1(1=1)?c(((((((", -1007);
        TEXT.due(rules("c(p=1)", 15) + ";c(123456", -2112);
    }

    /** "a FAULT .. (the one before stays)", "empty then". */
    private static void theOneBeforeStaysByAFault() {
        String[] texts = {"w9(1=1);?", "w9(1=1);w123456", rules("w9(1=1)", 17), "w9(((((((", "w9(1=1);", "w9(1=1)?"};
        int[] faults = {-1008, -2014, -4128, -5008, -1008, -1007};
        for (int i = 0; i < texts.length; i++) {
            MarginAlbum album = new MarginAlbum();
            Bench.law(album, "w3(p=1);l2(p=2)");
            album.pain(2, 10);
            BENCH.due("law " + texts[i], Bench.law(album, texts[i]), faults[i]);
            BENCH.due("empty then by " + texts[i], album.count(3), 0);
            BENCH.due("its rules stay by " + texts[i], album.count(2), 2);
            album.days(1);
            BENCH.due("what grows by it stays by " + texts[i], album.personIs(1, 0), 3);
            BENCH.due("what fades by it stays by " + texts[i], album.personIs(2, 0), 8);
            BENCH.due("nothing else by " + texts[i], album.count(6), 11);
        }
    }

    /** "THE LAW by the first n bytes .. in place of the one before: how many RULES". */
    private static void inPlaceOfTheOneBefore() {
        MarginAlbum album = new MarginAlbum();
        BENCH.due("three", Bench.law(album, "w3(p=1);w4(p=2);h10(1=1)"), 3);
        BENCH.due("rules", album.count(2), 3);
        BENCH.due("one", Bench.law(album, "w5(p=3)"), 1);
        BENCH.due("rules then", album.count(2), 1);
        album.days(1);
        BENCH.due("by the one alone", album.personIs(3, 0), 5);
        BENCH.due("nothing by those before", album.count(6), 5);
        BENCH.due("no slip by those before", album.album(1, 5), 0);
        BENCH.due("sixteen", Bench.law(album, rules("w0(1=2)", 15) + ";w7(p=4)"), 16);
        album.days(1);
        BENCH.due("by the sixteenth", album.personIs(4, 0), 7);
    }

    /** "a TEXT of at most 240 bytes". */
    private static void atMost240Bytes() {
        MarginAlbum album = new MarginAlbum();
        String longest = "w11(1=1" + "&1=1".repeat(58) + ")";
        BENCH.due("bytes", longest.length(), 240);
        BENCH.due("240 bytes", Bench.law(album, longest), 1);
        album.days(1);
        BENCH.due("all of them are asked", album.personIs(15, 0), 11);
        BENCH.due("with a fault at the last", Bench.law(album, longest.substring(0, 239) + "?"), -1239);
        BENCH.due("241 bytes", Bench.law(album, "w" + longest.substring(0, 240)), -1);
        BENCH.due("the tape stays", album.count(3), 260);
        BENCH.due("240 of them", album.law(240), -1001);
        BENCH.due("empty then", album.count(3), 0);
        String sixteen = rules("w1+0*1(p=100)", 15) + ";w2+0*1(0<1&1=1&11=11&1<2)";
        BENCH.due("bytes of sixteen rules", sixteen.length() <= 240, true);
        BENCH.due("sixteen rules", Bench.law(album, sixteen), 16);
        album.days(1);
        BENCH.due("by the last of them", album.personIs(15, 0), 13);
    }

    /** "by the first n bytes of the tape (1 to 240; empty then)", "NONE: no such n, it has not so many (the tape stays)". */
    private static void firstBytesOfTheTape() {
        MarginAlbum album = new MarginAlbum();
        BENCH.due("1 of an empty tape", album.law(1), -1);
        Bench.feed(album, Bench.bytesOf("w1(1=1);w2(1=1);c(1="));
        BENCH.due("0 bytes", album.law(0), -1);
        BENCH.due("-1 bytes", album.law(-1), -1);
        BENCH.due("21 of 20 bytes", album.law(21), -1);
        BENCH.due("the tape stays", album.count(3), 20);
        BENCH.due("no law", album.count(2), 0);
        BENCH.due("15 of 20 bytes", album.law(15), 2);
        BENCH.due("empty then", album.count(3), 0);
        Bench.feed(album, Bench.bytesOf("w1(1=1);w2(1=1);c(1="));
        BENCH.due("all 20 bytes", album.law(20), -1020);
        BENCH.due("empty by a fault, too", album.count(3), 0);
        Bench.feed(album, Bench.bytesOf("w1(1=1);w2(1=1);c(1="));
        BENCH.due("1 byte", album.law(1), -1001);
        Bench.feed(album, Bench.bytesOf("w12345678(1=1)"));
        BENCH.due("what is behind the n is not read", album.law(4), -1004);
        Bench.feed(album, Bench.bytesOf("w1(1=1);c(p=1)&p=2);"));
        BENCH.due("just a law", album.law(14), 2);
    }
}
