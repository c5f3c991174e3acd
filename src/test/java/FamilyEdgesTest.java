/** "SEEN", "TOUCH", "KIN", "HOLDS", "ALONE", "MIDDLE", "STRAIGHT": on both sides; promises 2, 3, 11, 12, 19, 20. */
public final class FamilyEdgesTest {
    private static final Bench BENCH = new Bench("FamilyEdgesTest");

    public static void main(String[] args) {
        pain();
        bound();
        seenOfAFigure();
        coveredOfThePrint();
        touchByACellOrSideBySide();
        touchOfMoreFigures();
        kinDirectlyOrByOthers();
        groupsOfKin();
        holds();
        alone();
        middle();
        straightColumns();
        straightRows();
        whatOfAPerson();
        whatOfThePrint();
        BENCH.end();
    }

    /** "PAIN (0 to 99; 0 at first)", "PAIN of a PERSON: true; false: no such ones". */
    private static void pain() {
        for (int p = 0; p < 16; p++) {
            MarginAlbum album = new MarginAlbum();
            BENCH.due("at first", album.personIs(p, 0), 0);
            for (int much : new int[] {1, 98, 99, 0}) {
                BENCH.due("pain " + p + " " + much, album.pain(p, much), true);
                BENCH.due("pain of " + p, album.personIs(p, 0), much);
                BENCH.due("pain of all", album.count(6), much);
            }
        }
        MarginAlbum album = new MarginAlbum();
        album.pain(0, 7);
        album.pain(15, 8);
        int[][] wrong = {{-1, 5}, {16, 5}, {0, -1}, {0, 100}, {15, 100}, {15, -1}, {Integer.MIN_VALUE, 0},
            {Integer.MAX_VALUE, 0}, {0, Integer.MIN_VALUE}, {0, Integer.MAX_VALUE}, {-1, -1}, {16, 100}};
        for (int[] call : wrong) {
            BENCH.due("pain " + call[0] + " " + call[1], album.pain(call[0], call[1]), false);
            BENCH.due("pain of 0 stays", album.personIs(0, 0), 7);
            BENCH.due("pain of 15 stays", album.personIs(15, 0), 8);
            BENCH.due("pain of all stays", album.count(6), 15);
        }
    }

    /** "BOUND (0 to 99; 50 at first): a PERSON is PAINFUL if PAIN is above it", "false: no such number". */
    private static void bound() {
        MarginAlbum album = new MarginAlbum();
        BENCH.due("at first", album.count(1), 50);
        for (int much : new int[] {0, 1, 50, 98, 99}) {
            BENCH.due("bound " + much, album.bound(much), true);
            BENCH.due("the bound", album.count(1), much);
            for (int more = -1; more <= 1; more++) {
                if (album.pain(9, much + more)) {
                    BENCH.due("painful by " + more + " at " + much, album.personIs(9, 1), more > 0 ? 1 : 0);
                    BENCH.due("who is, by " + more + " at " + much, album.printIs(5), more > 0 ? 512 : 0);
                }
            }
        }
        for (int wrong : new int[] {-1, 100, Integer.MIN_VALUE, Integer.MAX_VALUE}) {
            BENCH.due("bound " + wrong, album.bound(wrong), false);
            BENCH.due("the bound stays", album.count(1), 99);
        }
    }

    /** "SEEN: how many CELLS of a FIGURE no FIGURE in front of it covers". */
    private static void seenOfAFigure() {
        int[][] rows = {{0, 12}, {1, 15}, {2, 1}, {3, 0}, {4, 4}, {5, 1}};
        MarginAlbum album = Bench.printed("a0,0:4x4;b2,2:4x4;a3,3:1x1;c9,9:2x2;d9,9:2x2;e15,11:1x1");
        for (int[] row : rows) {
            BENCH.due("seen of figure " + row[0], album.figureIs(row[0], 5), row[1]);
        }
        Bench.edits(album, "#4!;#2!");
        BENCH.due("no one in front any more", album.figureIs(3, 5), 4);
        BENCH.due("one less in front", album.figureIs(1, 5), 16);
        Bench.print(album, "a0,0:16x12;b0,0:16x12");
        BENCH.due("all is hidden", album.figureIs(0, 5), 0);
        BENCH.due("all is seen", album.figureIs(1, 5), 192);
        Bench.print(album, "a5,5:1x1;a5,5:1x1");
        BENCH.due("by the same person's, too", album.figureIs(0, 5), 0);
        Bench.print(album, "a5,5:3x3;b6,6:1x1;c6,6:1x1");
        BENCH.due("a cell is covered once", album.figureIs(0, 5), 8);
    }

    /** "of the PRINT how many CELLS any covers". */
    private static void coveredOfThePrint() {
        MarginAlbum album = new MarginAlbum();
        BENCH.due("none", album.printIs(0), 0);
        String[] prints = {"a15,11:1x1", "a0,0:16x12", "a0,0:4x4;b2,2:4x4", "a0,0:1x1;b0,0:1x1", "a0,0:1x12;b0,0:16x1"};
        int[] covered = {1, 192, 28, 1, 27};
        for (int i = 0; i < prints.length; i++) {
            Bench.print(album, prints[i]);
            BENCH.due("covered by " + prints[i], album.printIs(0), covered[i]);
        }
        Bench.edits(album, "#1!");
        BENCH.due("by those left", album.printIs(0), 12);
        Bench.edits(album, "#0!");
        BENCH.due("by none", album.printIs(0), 0);
    }

    /** "TOUCH: two PERSONS if FIGURES of theirs share a CELL or CELLS side by side". */
    private static void touchByACellOrSideBySide() {
        for (int x = 0; x < 16; x++) {
            for (int y = 0; y < 12; y++) {
                MarginAlbum album = Bench.printed("a7,5:1x1;p" + x + "," + y + ":1x1");
                boolean touch = Math.abs(x - 7) + Math.abs(y - 5) <= 1;
                BENCH.due("whom a touches, p at " + x + "," + y, album.personIs(0, 5), touch ? 32768 : 0);
                BENCH.due("whom p touches, p at " + x + "," + y, album.personIs(15, 5), touch ? 1 : 0);
            }
        }
        for (int x = 0; x <= 13; x++) {
            for (int y = 0; y <= 10; y++) {
                MarginAlbum album = Bench.printed("b6,4:2x4;c" + x + "," + y + ":3x2");
                int apartX = Math.max(6 - (x + 2), x - 7);
                int apartY = Math.max(4 - (y + 1), y - 7);
                boolean touch = Math.max(apartX, 0) + Math.max(apartY, 0) <= 1;
                BENCH.due("whom b touches, c at " + x + "," + y, album.personIs(1, 5), touch ? 4 : 0);
                BENCH.due("whom c touches, c at " + x + "," + y, album.personIs(2, 5), touch ? 2 : 0);
            }
        }
    }

    /** "Whom one TOUCHES (bits)": by any FIGURE, oneself never. */
    private static void touchOfMoreFigures() {
        MarginAlbum album = Bench.printed("a0,0:1x1;a1,0:1x1;a9,9:1x1;b9,10:1x1;c10,9:1x1;d1,1:1x1;e2,1:1x1;p15,11:1x1");
        int[] touched = {2 + 4 + 8, 1, 1, 1 + 16, 8};
        for (int p = 0; p < 5; p++) {
            BENCH.due("whom " + p + " touches", album.personIs(p, 5), touched[p]);
        }
        BENCH.due("whom p touches", album.personIs(15, 5), 0);
        BENCH.due("who is not on the print", album.personIs(7, 5), 0);
        Bench.edits(album, "#2!");
        BENCH.due("without the figure that is out", album.personIs(0, 5), 8);
        BENCH.due("b, too", album.personIs(1, 5), 0);
    }

    /** "KIN: PERSONS on the PRINT who TOUCH, directly or by others (groups; one's)", "(bits; without a FIGURE 0)". */
    private static void kinDirectlyOrByOthers() {
        MarginAlbum album = Bench.printed("e4,0:1x1;a0,0:1x1;c2,0:1x1;b1,0:1x1;d3,0:1x1;g0,5:1x1;h0,6:1x1;p15,11:1x1");
        int[] kin = {31, 31, 31, 31, 31, 0, 192, 192};
        for (int p = 0; p < 8; p++) {
            BENCH.due("kin of " + p, album.personIs(p, 6), kin[p]);
        }
        BENCH.due("kin of one alone", album.personIs(15, 6), 32768);
        Bench.edits(album, "#2!");
        int[] then = {3, 3, 0, 24, 24};
        for (int p = 0; p < 5; p++) {
            BENCH.due("without c, kin of " + p, album.personIs(p, 6), then[p]);
        }
        Bench.print(album, "a0,0:1x1;a9,9:1x1;b1,0:1x1;c9,10:1x1");
        BENCH.due("by the figures of one between", album.personIs(1, 6), 7);
        // a row of twelve, told from its ends
        Bench.print(album, "a0,0:1x1;c2,0:1x1;e4,0:1x1;g6,0:1x1;i8,0:1x1;k10,0:1x1;l11,0:1x1;j9,0:1x1;h7,0:1x1;f5,0:1x1;"
                + "d3,0:1x1;b1,0:1x1");
        for (int p = 0; p < 16; p++) {
            BENCH.due("kin in a row, " + p, album.personIs(p, 6), p < 12 ? 4095 : 0);
        }
    }

    private static void dueGroups(String print, int groups) {
        BENCH.due("groups of " + print, Bench.printed(print).printIs(3), groups);
    }

    /** "3 groups of KIN". */
    private static void groupsOfKin() {
        BENCH.due("groups of none", new MarginAlbum().printIs(3), 0);
        dueGroups("p0,0:1x1", 1);
        dueGroups("a0,0:1x1;p1,0:1x1", 1);
        dueGroups("a0,0:1x1;p2,0:1x1", 2);
        dueGroups("a0,0:1x1;p1,1:1x1", 2);
        dueGroups("a0,0:1x1;a9,9:1x1", 1);
        dueGroups("a0,0:1x1;b9,9:1x1;a9,8:1x1;b15,0:1x1", 1);
        dueGroups("a0,0:1x1;b2,0:1x1;c4,0:1x1;d6,0:1x1;e8,0:1x1;f10,0:1x1;g12,0:1x1;h14,0:1x1;i0,2:1x1;j2,2:1x1;"
                + "k4,2:1x1;p6,2:1x1", 12);
        MarginAlbum album = Bench.printed("a0,0:1x1;b1,0:1x1;c2,0:1x1");
        Bench.edits(album, "#1!");
        BENCH.due("groups of those left", album.printIs(3), 2);
    }

    private static void dueHolds(String print, int persons) {
        BENCH.due("who holds all together in " + print, Bench.printed(print).printIs(4), persons);
    }

    /** "HOLDS: PERSONS without whom there would be more groups of those left". */
    private static void holds() {
        BENCH.due("who holds none", new MarginAlbum().printIs(4), 0);
        dueHolds("a0,0:1x1", 0);
        dueHolds("a0,0:1x1;b1,0:1x1", 0);
        dueHolds("a0,0:1x1;b1,0:1x1;c2,0:1x1", 2);
        dueHolds("a0,0:1x1;b1,0:1x1;c2,0:1x1;d3,0:1x1;e9,9:1x1", 6);
        dueHolds("a0,0:2x2;b2,0:1x2;c0,2:3x1", 0);
        dueHolds("b5,5:3x3;a4,5:1x1;c8,6:1x1;p6,4:1x1", 2);
        dueHolds("p5,5:3x3;a4,5:1x1;c8,6:1x1", 32768);
        // two groups stay two without one who is alone
        dueHolds("a0,0:1x1;b9,9:1x1", 0);
        dueHolds("a0,0:1x1;a9,9:1x1;b1,0:1x1;c9,10:1x1", 1);
    }

    /** "ALONE: PERSONS on the PRINT who TOUCH nobody". */
    private static void alone() {
        BENCH.due("nobody", new MarginAlbum().family(0), 0);
        String[] prints = {"p0,0:1x1", "a0,0:1x1;b1,0:1x1", "a0,0:1x1;b1,1:1x1", "a0,0:1x1;a1,0:1x1", "a5,5:2x2;b6,6:2x2",
            "a0,0:1x1;b2,0:1x1;b3,0:1x1;c4,0:1x1", "a0,0:1x1;b0,2:1x1;p0,1:1x1;d9,9:1x1"};
        int[] persons = {32768, 0, 3, 1, 0, 1, 8};
        for (int i = 0; i < prints.length; i++) {
            BENCH.due("alone in " + prints[i], Bench.printed(prints[i]).family(0), persons[i]);
        }
        MarginAlbum album = Bench.printed("a0,0:1x1;b1,0:1x1;c9,9:1x1");
        Bench.edits(album, "#1!;#2!");
        BENCH.due("alone when the others are out", album.family(0), 1);
    }

    private static void dueMiddle(String print, int person) {
        BENCH.due("the middle of " + print, Bench.printed(print).family(1), person);
    }

    /** "MIDDLE: the PERSON of the FIGURE whose middle is nearest .. added up; of like ones the lowest FIGURE", "-2". */
    private static void middle() {
        MarginAlbum album = new MarginAlbum();
        BENCH.due("no figure", album.family(1), -2);
        Bench.print(album, "p0,0:1x1;c15,11:1x1");
        BENCH.due("like ones far off", album.family(1), 15);
        Bench.edits(album, "#0!");
        BENCH.due("the other one", album.family(1), 2);
        Bench.edits(album, "#1!");
        BENCH.due("no figure any more", album.family(1), -2);
        dueMiddle("b0,0:16x12;a7,5:2x2", 1);
        dueMiddle("b7,5:1x1;a8,6:1x1", 1);
        dueMiddle("b7,5:1x1;a8,5:1x2", 0);
        dueMiddle("b8,5:1x2;a7,5:3x2", 1);
        dueMiddle("b7,5:3x2;a7,5:2x2", 0);
        // 3 on and 0 up is as far as 2 on and 1 up, nearer than 2 and 2
        dueMiddle("b10,5:2x2;a9,6:2x2", 1);
        dueMiddle("b9,6:2x2;a10,5:2x2", 1);
        dueMiddle("b9,7:2x2;a10,5:2x2", 0);
        dueMiddle("b10,5:2x2;a9,7:2x2", 1);
        // to the left and up is as far as to the right and down
        dueMiddle("b4,5:2x2;a10,5:2x2", 1);
        dueMiddle("b3,5:2x2;a10,5:2x2", 0);
        dueMiddle("b7,3:2x2;a7,7:2x2", 1);
        dueMiddle("b7,2:2x2;a7,7:2x2", 0);
        // half a cell tells
        dueMiddle("b0,5:15x2;a0,5:16x2", 0);
        dueMiddle("b0,5:15x2;a0,5:14x2", 1);
        dueMiddle("b7,0:2x11;a7,0:2x12", 0);
        dueMiddle("c0,0:1x1;c1,0:1x1;o2,0:1x1", 14);
    }

    /** "STRAIGHT: lines between two columns (1 to 15: to the right of so many) .. cut through no FIGURE". */
    private static void straightColumns() {
        BENCH.due("no figure", new MarginAlbum().family(2), 65534);
        for (int left = 0; left < 16; left++) {
            for (int wide = 1; left + wide <= 16; wide++) {
                int due = 0;
                for (int line = 1; line <= 15; line++) {
                    boolean cuts = line > left && line < left + wide;
                    due |= cuts ? 0 : 1 << line;
                }
                String print = "a" + left + ",3:" + wide + "x2";
                BENCH.due("columns of " + print, Bench.printed(print).family(2), due);
            }
        }
        MarginAlbum album = Bench.printed("a0,0:3x1;b5,0:3x1;c2,5:4x1");
        BENCH.due("columns of three", album.family(2), 65534 & ~(2 + 4 + 8 + 16 + 32 + 64 + 128));
        Bench.edits(album, "#2!");
        BENCH.due("columns of two", album.family(2), 65534 & ~(2 + 4 + 64 + 128));
    }

    /** "or rows (1 to 11)". */
    private static void straightRows() {
        BENCH.due("no figure", new MarginAlbum().family(3), 4094);
        for (int top = 0; top < 12; top++) {
            for (int high = 1; top + high <= 12; high++) {
                int due = 0;
                for (int line = 1; line <= 11; line++) {
                    boolean cuts = line > top && line < top + high;
                    due |= cuts ? 0 : 1 << line;
                }
                String print = "p3," + top + ":2x" + high;
                BENCH.due("rows of " + print, Bench.printed(print).family(3), due);
            }
        }
        MarginAlbum album = Bench.printed("a0,0:1x3;b0,5:1x3;c5,2:1x4");
        BENCH.due("rows of three", album.family(3), 4094 & ~(2 + 4 + 8 + 16 + 32 + 64 + 128));
        Bench.edits(album, "#2!");
        BENCH.due("rows of two", album.family(3), 4094 & ~(2 + 4 + 64 + 128));
    }

    /** "Of a PERSON, what 0 .. 6; NONE for others". */
    private static void whatOfAPerson() {
        MarginAlbum album = Bench.printed("p0,0:2x2;p5,5:1x1;a6,5:1x1;b15,11:1x1");
        album.pain(15, 51);
        album.pain(0, 50);
        album.days(2);
        int[] ofP = {51, 1, 2, 0, 99, 1, 32769};
        int[] ofA = {50, 0, 1, 2, 1, 32768, 32769};
        int[] ofO = {0, 0, 0, 0, 99, 0, 0};
        for (int what = 0; what < 7; what++) {
            BENCH.due("p " + what, album.personIs(15, what), ofP[what]);
            BENCH.due("a " + what, album.personIs(0, what), ofA[what]);
            BENCH.due("o " + what, album.personIs(14, what), ofO[what]);
            for (int p : new int[] {-1, 16, Integer.MIN_VALUE, Integer.MAX_VALUE}) {
                BENCH.due("person " + p + " " + what, album.personIs(p, what), -1);
            }
        }
        for (int what : new int[] {-1, 7, Integer.MIN_VALUE, Integer.MAX_VALUE}) {
            BENCH.due("person 0 " + what, album.personIs(0, what), -1);
        }
    }

    /** "told FIGURES (bits), PERSONS on the PRINT (bits), PAINFUL ones (bits); NONE: no such what". */
    private static void whatOfThePrint() {
        MarginAlbum album = Bench.printed("a0,0:4x4;p2,2:4x4;c15,11:1x1;c0,0:1x1");
        Bench.edits(album, "#2!");
        album.pain(0, 51);
        album.pain(14, 99);
        album.pain(8, 50);
        int[] due = {28, 11, 1 + 4 + 32768, 1, 1, 1 + 16384};
        for (int what = 0; what < 6; what++) {
            BENCH.due("printIs " + what, album.printIs(what), due[what]);
        }
        for (int what : new int[] {-1, 6, Integer.MIN_VALUE, Integer.MAX_VALUE}) {
            BENCH.due("printIs " + what, album.printIs(what), -1);
        }
        for (int what : new int[] {-1, 4, Integer.MIN_VALUE, Integer.MAX_VALUE}) {
            BENCH.due("family " + what, album.family(what), -1);
        }
        MarginAlbum none = new MarginAlbum();
        for (int what = 0; what < 6; what++) {
            BENCH.due("as new, printIs " + what, none.printIs(what), 0);
        }
    }
}
