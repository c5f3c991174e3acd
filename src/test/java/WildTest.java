/** Calls with any arguments at all: none is thrown at, refused ones change nothing, nothing new is made. */
public final class WildTest {
    private static final Bench BENCH = new Bench("WildTest");

    private final Texts texts;
    private final MarginAlbum album = new MarginAlbum();

    private WildTest(int run) {
        texts = new Texts(run);
    }

    public static void main(String[] args) {
        for (int run = 0; run < 400; run++) {
            WildTest test = new WildTest(run);
            test.prepare();
            for (int call = 0; call < 500; call++) {
                test.callAny(test.texts.below(31));
            }
            test.refuse();
        }
        makesNothing();
        BENCH.end();
    }

    private void prepare() {
        if (texts.onceIn(4)) {
            return;
        }
        Bench.print(album, texts.print());
        Bench.law(album, texts.law());
        album.days(1 + texts.below(30));
    }

    private int callAny(int which) {
        int a = texts.any();
        int b = texts.any();
        int c = texts.any();
        int d = texts.any();
        int e = texts.any();
        switch (which) {
            case 0: return album.pain(a, b) ? 1 : 0;
            case 1: return album.bound(a) ? 1 : 0;
            case 2: return album.feed(a, b, c, d, e);
            case 3: return album.law(a);
            case 4: return album.print(a);
            case 5: return album.edits(a);
            case 6: return album.mirror();
            case 7: return album.days(a);
            case 8: return album.tried(a, b);
            case 9: return album.figureIs(a, b);
            case 10: return album.personIs(a, b);
            case 11: return album.without(a, b);
            case 12: return album.today(a);
            case 13: return album.shows(a, b, c, d, e);
            case 14: return album.sky(a);
            case 15: return album.smallest(a, b);
            case 16: return album.smallestOf(a, b);
            case 17: return album.printIs(a);
            case 18: return album.family(a);
            case 19: return album.album(a, b);
            case 20: return album.pages(a, b);
            case 21: return album.offcuts(a, b, c);
            case 22: return album.fold(a);
            case 23: return album.told(a, b, c, d);
            case 24: return album.frames(a, b > 0);
            case 25: return album.seed(a) ? 1 : 0;
            case 26: return album.keep();
            case 27: return album.undo() ? 1 : 0;
            case 28: return album.check(a);
            case 29: return album.count(a);
            default:
                String text = texts.onceIn(2) ? texts.edits() : texts.onceIn(2) ? texts.print() : texts.law();
                Bench.feed(album, Bench.bytesOf(text));
                return 0;
        }
    }

    private String state() {
        StringBuilder state = new StringBuilder();
        for (int i = 0; i < 31; i++) {
            for (int what = 0; what < 7; what++) {
                state.append(album.count(what)).append(' ').append(album.album(i, what)).append(' ');
                state.append(album.personIs(i, what)).append(' ').append(album.figureIs(i, what)).append(' ');
            }
        }
        for (int what = 0; what < 26; what++) {
            state.append(album.tried(3, what)).append(' ');
        }
        return state.toString();
    }

    private void refuse() {
        String before = state();
        int[] wrong = {-1, Integer.MIN_VALUE, Integer.MAX_VALUE, 65536, -65536};
        for (int w : wrong) {
            album.pain(w, 5);
            album.pain(0, w);
            album.bound(w);
            album.law(w);
            album.print(w);
            album.edits(w);
            album.days(w);
            album.tried(w, 0);
            album.tried(30, 3);
            album.pages(w, 0);
            album.pages(1, w);
            album.offcuts(w, 1, 0);
            album.offcuts(1, 1, w);
            album.told(w, 0, 0, 0);
            album.told(1, w, 0, 0);
            album.told(1, 0, w, 0);
            album.told(1, 0, 0, w);
            album.frames(w, true);
            album.seed(w);
            album.check(w);
            album.smallest(w, w);
            album.without(w, w);
        }
        BENCH.due("refused calls change nothing", state().equals(before), true);
    }

    private static void makesNothing() {
        WildTest test = new WildTest(1);
        MarginAlbum album = Bench.printed("a0,0:2x2;b4,4:2x2;c8,8:2x2");
        long before = made();
        for (int i = 0; i < 500; i++) {
            album.feed(0x77312831, 0x3d31293b, 0x0a0a0a0a, i, i);
            album.tried(30, 0);
            album.days(1);
            album.smallest(2, 0);
            album.printIs(4);
            album.law(7);
            album.feed(i, i, i, i, i);
            album.pages(6, 1);
            album.keep();
            album.undo();
            test.album.sky(i);
        }
        // the machine itself makes some as it measures
        BENCH.due("calls make no objects", made() - before < 100_000, true);
    }

    private static long made() {
        java.lang.management.ThreadMXBean bean = java.lang.management.ManagementFactory.getThreadMXBean();
        if (bean instanceof com.sun.management.ThreadMXBean) {
            return ((com.sun.management.ThreadMXBean) bean).getThreadAllocatedBytes(Thread.currentThread().getId());
        }
        return 0;
    }
}
