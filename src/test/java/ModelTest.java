/** Long runs of calls, each answer compared with what the document's plain second telling answers. */
public final class ModelTest {
    private static final Bench BENCH = new Bench("ModelTest");

    private final int run;
    private final Texts texts;
    private final MarginAlbum album = new MarginAlbum();
    private final PlainAlbum plain = new PlainAlbum();

    private ModelTest(int run) {
        this.run = run;
        this.texts = new Texts(run);
    }

    public static void main(String[] args) {
        int runs = args.length > 0 ? Integer.parseInt(args[0]) : 150;
        int first = args.length > 1 ? Integer.parseInt(args[1]) : 0;
        for (int run = first; run < first + runs; run++) {
            ModelTest test = new ModelTest(run);
            for (int call = 0; call < 170; call++) {
                test.call();
            }
        }
        BENCH.end();
    }

    private void due(String call, long got, long want) {
        BENCH.due("run " + run + ": " + call, got, want);
    }

    private void due(String call, boolean got, boolean want) {
        BENCH.due("run " + run + ": " + call, got, want);
    }

    private void feed(int... bytes) {
        for (int i = 0; i < bytes.length; i += 20) {
            int[] words = Bench.words(bytes, i);
            int[] part = new int[20];
            System.arraycopy(bytes, i, part, 0, Math.min(20, bytes.length - i));
            due("feed", album.feed(words[0], words[1], words[2], words[3], words[4]), plain.feed(part));
        }
    }

    private int[] bytes(int many, int below) {
        int[] bytes = new int[many];
        for (int i = 0; i < many; i++) {
            bytes[i] = texts.below(texts.onceIn(40) ? 256 : below);
        }
        return bytes;
    }

    private void call() {
        switch (texts.below(12)) {
            case 0:
                tellPrint();
                break;
            case 1:
                tellLaw();
                break;
            case 2:
            case 3:
                live();
                break;
            case 4:
                tellEdits();
                break;
            case 5:
                askRectangles();
                break;
            case 6:
                askFamily();
                break;
            case 7:
                askShop();
                break;
            case 8:
                setSmallThings();
                break;
            case 9:
                askSmallest();
                break;
            default:
                askState();
                break;
        }
    }

    private void tellPrint() {
        String text = texts.print();
        feed(Bench.bytesOf(text));
        due("print " + text, album.print(text.length()), plain.print(text.length()));
    }

    private void tellEdits() {
        String text = texts.edits();
        feed(Bench.bytesOf(text));
        due("edits " + text, album.edits(text.length()), plain.edits(text.length()));
    }

    private void tellLaw() {
        String text = texts.law();
        feed(Bench.bytesOf(text));
        due("law " + text, album.law(text.length()), plain.law(text.length()));
    }

    private void live() {
        int n = 1 + texts.below(texts.onceIn(6) ? 32 : 4);
        if (texts.onceIn(2)) {
            due("days " + n, album.days(n), plain.days(n));
        } else {
            int what = texts.below(27);
            due("tried " + n + " " + what, album.tried(n, what), plain.tried(n, what));
        }
        for (int p = 0; p < 16; p++) {
            due("personIs " + p + " 0", album.personIs(p, 0), plain.personIs(p, 0));
        }
        for (int what = 0; what < 6; what++) {
            due("album 1 " + what, album.album(1, what), plain.album(1, what));
        }
    }

    private void askRectangles() {
        int x = texts.below(16);
        int y = texts.below(12);
        int w = 1 + texts.below(17 - x);
        int h = 1 + texts.below(13 - y);
        int persons = texts.onceIn(10) ? texts.any() : texts.below(65536);
        for (int what = -1; what < 6; what++) {
            String call = x + " " + y + " " + w + " " + h + " " + what;
            due("shows " + call, album.shows(x, y, w, h, what), plain.shows(x, y, w, h, what));
            due("without " + persons + " " + what, album.without(persons, what), plain.without(persons, what));
            due("today " + what, album.today(what), plain.today(what));
            due("sky " + what, album.sky(what), plain.sky(what));
        }
    }

    private void askSmallest() {
        int k = texts.onceIn(10) ? texts.any() : 1 + texts.below(4);
        int persons = texts.onceIn(10) ? texts.any() : 1 << texts.below(16) | 1 << texts.below(4);
        for (int what = -1; what < 5; what++) {
            due("smallest " + k + " " + what, album.smallest(k, what), plain.smallest(k, what));
            due("smallestOf " + persons + " " + what, album.smallestOf(persons, what), plain.smallestOf(persons, what));
        }
    }

    private void askFamily() {
        int p = texts.below(16);
        for (int what = -1; what < 8; what++) {
            due("personIs " + p + " " + what, album.personIs(p, what), plain.personIs(p, what));
            due("printIs " + what, album.printIs(what), plain.printIs(what));
            due("family " + what, album.family(what), plain.family(what));
            for (int i = -1; i < 13; i++) {
                due("figureIs " + i + " " + what, album.figureIs(i, what), plain.figureIs(i, what));
            }
        }
        if (texts.onceIn(3)) {
            due("mirror", album.mirror(), plain.mirror());
        }
    }

    private void askShop() {
        int n = texts.onceIn(10) ? texts.any() : 1 + texts.below(7);
        int what = texts.below(3);
        switch (texts.below(5)) {
            case 0:
                feed(bytes(12, 13));
                due("pages " + n + " " + what, album.pages(n, what), plain.pages(n, what));
                break;
            case 1:
                feed(bytes(8, 61));
                int length = texts.onceIn(10) ? texts.any() : 1 + texts.below(241);
                due("offcuts " + n + " " + length, album.offcuts(n, length, what), plain.offcuts(n, length, what));
                break;
            case 2:
                tellOfCuts(what);
                break;
            case 3:
                feed(bytes(20, texts.onceIn(3) ? 256 : 12));
                boolean turned = texts.onceIn(2);
                due("frames " + n + " " + turned, album.frames(n, turned), plain.frames(n, turned));
                break;
            default:
                due("fold " + n, album.fold(n), plain.fold(n));
                break;
        }
    }

    private void tellOfCuts(int what) {
        int n = 1 + texts.below(texts.onceIn(5) ? 13 : 3);
        int m = texts.below(texts.onceIn(5) ? 11 : 5);
        int[] bytes = new int[2 * n + 2 * m];
        for (int i = 0; i < bytes.length; i++) {
            bytes[i] = i < 2 * n ? texts.below(256) & texts.below(256) & texts.below(256) : texts.below(16);
        }
        if (texts.onceIn(10)) {
            bytes[texts.below(bytes.length)] = 16;
        }
        feed(bytes);
        int persons = texts.onceIn(2) ? 65535 : texts.onceIn(8) ? texts.any() : texts.below(65536);
        due("told " + n + " " + m + " " + persons + " " + what,
                album.told(n, m, persons, what), plain.told(n, m, persons, what));
    }

    private void setSmallThings() {
        int p = texts.onceIn(10) ? texts.any() : texts.below(16);
        int much = texts.onceIn(10) ? texts.any() : texts.below(101);
        switch (texts.below(7)) {
            case 0:
            case 1:
                due("pain " + p + " " + much, album.pain(p, much), plain.pain(p, much));
                break;
            case 2:
                due("bound " + much, album.bound(much), plain.bound(much));
                break;
            case 3:
                int x = texts.onceIn(4) ? texts.any() : texts.below(65536);
                due("seed " + x, album.seed(x), plain.seed(x));
                break;
            case 4:
                due("keep", album.keep(), plain.keep());
                break;
            case 5:
                due("undo", album.undo(), plain.undo());
                break;
            default:
                checkPain();
                break;
        }
    }

    private void checkPain() {
        int n = texts.below(18);
        int[] bytes = new int[20];
        for (int p = 0; p < 16; p++) {
            bytes[p] = plain.state.pain[p] + (texts.onceIn(20) ? 1 : 0);
        }
        feed(bytes);
        due("check " + n, album.check(n), plain.check(n));
    }

    private void askState() {
        for (int what = -1; what < 8; what++) {
            due("count " + what, album.count(what), plain.count(what));
        }
        int i = texts.below(32);
        int p = texts.below(16);
        for (int what = -1; what < 7; what++) {
            due("album " + i + " " + what, album.album(i, what), plain.album(i, what));
        }
        for (int what = 2; what < 5; what++) {
            due("personIs " + p + " " + what, album.personIs(p, what), plain.personIs(p, what));
        }
        if (texts.onceIn(5)) {
            int[] bytes = {texts.any(), texts.any(), texts.any(), texts.any()};
            feed(bytes);
        }
        if (texts.onceIn(8)) {
            int n = texts.any();
            due("print " + n, album.print(n), plain.print(n));
            due("law " + n, album.law(n), plain.law(n));
            due("edits " + n, album.edits(n), plain.edits(n));
        }
    }
}
