/**
 * Two albums that were told the same, of which one alone is asked what is refused:
 * whatever can be asked of them afterwards must be answered alike by both.
 */
final class Twins {
    /** A call; a boolean counts 1 or 0. */
    interface Call {
        int on(MarginAlbum album);
    }

    private static final String KEPT_PRINT = "a0,0:2x2;b4,4:3x3;c9,9:1x2;p12,1:2x2";
    private static final String NEXT_PRINT = "d1,1:1x1;e2,2:2x2;a14,10:2x2";
    private static final String LAW = "w3(p<3);l1(d>2);h5(1=1);c(p=3&d>1)";
    /** It begins every tape that is not empty, so that it can be told afterwards which bytes the tape holds. */
    static final String TAPE = "b3,2:5x4;k15,11:1x1a";

    private final MarginAlbum asked;
    private final MarginAlbum other;

    /** A tape of so many bytes (0, 20, 40 .. 260). */
    Twins(int tapeBytes) {
        asked = told(tapeBytes);
        other = told(tapeBytes);
    }

    private static MarginAlbum told(int tapeBytes) {
        MarginAlbum album = new MarginAlbum();
        Bench.print(album, KEPT_PRINT);
        album.bound(40);
        album.seed(4711);
        album.pain(1, 39);
        album.days(2);
        album.keep();
        Bench.print(album, NEXT_PRINT);
        Bench.law(album, LAW);
        album.pain(5, 77);
        album.days(3);
        for (int bytes = 0; bytes < tapeBytes; bytes += 20) {
            Bench.feed(album, Bench.bytesOf(bytes == 0 ? TAPE : "????????????????????"));
        }
        return album;
    }

    /** What the call answers of such an album with a tape of 20 bytes. */
    static int ask(Call call) {
        return call.on(told(20));
    }

    /** The call answers what is due and changes nothing at all. */
    void refuse(Bench bench, String call, Call refused, int due) {
        bench.due(call, refused.on(asked), due);
        bench.due(call + " changes nothing", look(asked).equals(look(other)), true);
        bench.due(call + " lets the tape's bytes stay", asked.print(19), other.print(19));
        bench.due(call + ": the print by them", look(asked).equals(look(other)), true);
        bench.due(call + " lets what was kept stay", asked.undo(), other.undo());
        bench.due(call + ": as it was kept", look(asked).equals(look(other)), true);
    }

    /** The call answers what is due and changes nothing but the tape, which is empty then. */
    void empty(Bench bench, String call, Call fruitless, int due) {
        bench.due(call, fruitless.on(asked), due);
        bench.due(call + ": the tape is empty then", asked.count(3), 0);
        bench.due(call + ": the other's tape", other.check(0), -1);
        bench.due(call + " changes but the tape", look(asked).equals(look(other)), true);
        bench.due(call + " lets what was kept stay", asked.undo(), other.undo());
        bench.due(call + ": as it was kept", look(asked).equals(look(other)), true);
    }

    /** What can be asked without a change, in some 140 calls: three looks are fewer than 512. */
    private static String look(MarginAlbum album) {
        StringBuilder look = new StringBuilder();
        for (int what = 0; what < 7; what++) {
            add(look, album.count(what));
        }
        for (int p = 0; p < 16; p++) {
            add(look, album.personIs(p, 0));
            add(look, album.personIs(p, 3));
            add(look, album.personIs(p, 4));
        }
        for (int i = 0; i < 5; i++) {
            for (int what = 0; what < 5; what++) {
                add(look, album.figureIs(i, what));
            }
        }
        for (int i = 1; i < 7; i++) {
            for (int what = 0; what < 6; what++) {
                add(look, album.album(i, what));
            }
        }
        add(look, album.printIs(1));
        add(look, album.printIs(5));
        // the law, by what it would do
        for (int p = 0; p < 5; p++) {
            add(look, album.tried(4, 10 + p));
        }
        add(look, album.tried(30, 1));
        add(look, album.tried(5, 3));
        return look.toString();
    }

    private static void add(StringBuilder look, int answer) {
        look.append(answer).append(' ');
    }
}
