import java.util.ArrayList;
import java.util.List;

/**
 * The document told a second time, cell by cell and without any care for speed,
 * so that the album's answers have something to be compared with.
 */
final class PlainAlbum {
    static final class Fault extends RuntimeException {
        private static final long serialVersionUID = 1;
        final int value;

        Fault(int number, int place) {
            this.value = -1000 * number - place;
        }
    }

    static final class Refused extends RuntimeException {
        private static final long serialVersionUID = 1;
    }

    interface Sum {
        int value(int[] letters);
    }

    interface Test {
        boolean holds(int[] letters);
    }

    record Rule(char kind, Sum sum, Test test) {
    }

    record Figure(int person, int x, int y, int w, int h) {
        boolean has(int cx, int cy) {
            return cx >= x && cx < x + w && cy >= y && cy < y + h;
        }
    }

    record Rect(int x, int y, int w, int h) {
        boolean has(int cx, int cy) {
            return cx >= x && cx < x + w && cy >= y && cy < y + h;
        }

        int cells() {
            return w * h;
        }

        int part(int what) {
            return what == 0 ? x : what == 1 ? y : what == 2 ? w : h;
        }

        boolean isBeforeAmongLike(Rect other) {
            if (y != other.y) {
                return y < other.y;
            }
            if (x != other.x) {
                return x < other.x;
            }
            return w > other.w;
        }
    }

    record Pasted(Rect rect, int whole, boolean slipped) {
    }

    static final class State {
        Figure[] figures = new Figure[12];
        int[] pain = new int[16];
        List<Pasted> album = new ArrayList<>();
        int x = 1;

        State copy() {
            State other = new State();
            other.figures = figures.clone();
            other.pain = pain.clone();
            other.album = new ArrayList<>(album);
            other.x = x;
            return other;
        }
    }

    State state = new State();
    State kept;
    int bound = 50;
    List<Rule> law = new ArrayList<>();
    List<Integer> tape = new ArrayList<>();

    private String text;
    private int at;

    // ---- the tape

    int feed(int[] bytes) {
        if (tape.size() + 20 > 260) {
            return -1;
        }
        for (int k = 0; k < 20; k++) {
            tape.add(k < bytes.length ? bytes[k] & 255 : 0);
        }
        return tape.size();
    }

    private String taken(int n) {
        StringBuilder taken = new StringBuilder();
        for (int i = 0; i < n; i++) {
            taken.append((char) (int) tape.get(i));
        }
        tape.clear();
        return taken.toString();
    }

    // ---- texts

    private char sign() {
        return at < text.length() ? text.charAt(at) : (char) 999;
    }

    private void need(char sign) {
        if (sign() != sign) {
            throw new Fault(1, at);
        }
        at++;
    }

    private int number(int digits) {
        int from = at;
        while (sign() >= '0' && sign() <= '9') {
            if (at - from == digits) {
                throw new Fault(2, at);
            }
            at++;
        }
        if (at == from) {
            throw new Fault(1, at);
        }
        return Integer.parseInt(text.substring(from, at));
    }

    int print(int n) {
        if (n < 1 || n > 160 || n > tape.size()) {
            return -1;
        }
        text = taken(n);
        at = 0;
        List<Figure> told = new ArrayList<>();
        try {
            do {
                if (!told.isEmpty()) {
                    need(';');
                }
                if (sign() < 'a' || sign() > 'p') {
                    throw new Fault(1, at);
                }
                if (told.size() == 12) {
                    throw new Fault(4, at);
                }
                int person = sign() - 'a';
                at++;
                int x = within(0, 15);
                need(',');
                int y = within(0, 11);
                need(':');
                int w = within(1, 16 - x);
                need('x');
                int h = within(1, 12 - y);
                told.add(new Figure(person, x, y, w, h));
            } while (at < text.length());
        } catch (Fault fault) {
            return fault.value;
        }
        for (int i = 0; i < 12; i++) {
            state.figures[i] = i < told.size() ? told.get(i) : null;
        }
        return told.size();
    }

    private int within(int least, int most) {
        int from = at;
        int value = number(2);
        if (value < least || value > most) {
            throw new Fault(3, from);
        }
        return value;
    }

    int edits(int n) {
        if (n < 1 || n > 120 || n > tape.size()) {
            return -1;
        }
        text = taken(n);
        at = 0;
        State draft = state.copy();
        int lines = 0;
        try {
            do {
                if (lines > 0) {
                    need(';');
                }
                char first = sign();
                if (first != '#' && (first < 'a' || first > 'p')) {
                    throw new Fault(1, at);
                }
                if (lines == 20) {
                    throw new Fault(4, at);
                }
                at++;
                if (first == '#') {
                    editFigure(draft);
                } else {
                    editPain(draft, first - 'a');
                }
                lines++;
            } while (at < text.length());
        } catch (Fault fault) {
            return fault.value;
        }
        state = draft;
        return lines;
    }

    private void editPain(State draft, int p) {
        char sign = sign();
        if (sign != '+' && sign != '-') {
            throw new Fault(1, at);
        }
        at++;
        int much = number(2);
        int pain = draft.pain[p] + (sign == '+' ? much : -much);
        draft.pain[p] = pain < 0 ? 0 : pain > 99 ? 99 : pain;
    }

    private void editFigure(State draft) {
        int from = at;
        int i = number(2);
        if (i > 11 || draft.figures[i] == null) {
            throw new Fault(7, from);
        }
        char sign = sign();
        int where = "<>^_!".indexOf(sign);
        if (where < 0) {
            throw new Fault(1, at);
        }
        at++;
        if (sign == '!') {
            draft.figures[i] = null;
            return;
        }
        Figure f = draft.figures[i];
        int x = f.x() + new int[] {-1, 1, 0, 0}[where];
        int y = f.y() + new int[] {0, 0, -1, 1}[where];
        if (x >= 0 && y >= 0 && x + f.w() <= 16 && y + f.h() <= 12) {
            draft.figures[i] = new Figure(f.person(), x, y, f.w(), f.h());
        }
    }

    // ---- the law

    int law(int n) {
        if (n < 1 || n > 240 || n > tape.size()) {
            return -1;
        }
        text = taken(n);
        at = 0;
        List<Rule> rules = new ArrayList<>();
        try {
            do {
                if (!rules.isEmpty()) {
                    need(';');
                }
                char kind = sign();
                if ("wlhc".indexOf(kind) < 0) {
                    throw new Fault(1, at);
                }
                if (rules.size() == 16) {
                    throw new Fault(4, at);
                }
                at++;
                Sum sum = kind == 'c' ? null : sum("");
                Test test = round("");
                rules.add(new Rule(kind, sum, test));
            } while (at < text.length());
        } catch (Fault fault) {
            return fault.value;
        }
        law = rules;
        return rules.size();
    }

    /** What is open is told as a text of its signs. */
    private String opened(String open, char sign) {
        if (sign() != sign) {
            throw new Fault(1, at);
        }
        if (open.length() == 6) {
            throw new Fault(5, at);
        }
        at++;
        return open + sign;
    }

    private Test round(String open) {
        String inside = opened(open, '(');
        Test test = parts(inside);
        need(')');
        return test;
    }

    private Test parts(String open) {
        List<Test> parts = new ArrayList<>();
        parts.add(part(open));
        while (sign() == '|') {
            at++;
            parts.add(part(open));
        }
        return letters -> {
            for (Test part : parts) {
                if (part.holds(letters)) {
                    return true;
                }
            }
            return false;
        };
    }

    private Test part(String open) {
        List<Test> tests = new ArrayList<>();
        tests.add(test(open));
        while (sign() == '&') {
            at++;
            tests.add(test(open));
        }
        return letters -> {
            for (Test test : tests) {
                if (!test.holds(letters)) {
                    return false;
                }
            }
            return true;
        };
    }

    private Test test(String open) {
        if (sign() == '!') {
            Test inside = test(opened(open, '!'));
            return letters -> !inside.holds(letters);
        }
        if (sign() == '(') {
            return round(open);
        }
        Sum left = sum(open);
        char sign = sign();
        if ("<>=".indexOf(sign) < 0) {
            throw new Fault(1, at);
        }
        at++;
        Sum right = sum(open);
        return letters -> {
            int a = left.value(letters);
            int b = right.value(letters);
            return sign == '<' ? a < b : sign == '>' ? a > b : a == b;
        };
    }

    private Sum sum(String open) {
        Sum sum = term(open);
        while (sign() == '+' || sign() == '-') {
            char sign = sign();
            at++;
            Sum a = sum;
            Sum b = term(open);
            sum = letters -> {
                int x = a.value(letters);
                int y = b.value(letters);
                return sign == '+' ? x + y : x - y;
            };
        }
        return sum;
    }

    private Sum term(String open) {
        Sum term = factor(open);
        while (sign() == '*' || sign() == '/' || sign() == '%') {
            char sign = sign();
            at++;
            Sum a = term;
            Sum b = factor(open);
            term = letters -> {
                int x = a.value(letters);
                int y = b.value(letters);
                if (sign == '*') {
                    return x * y;
                }
                if (y == 0) {
                    throw new Refused();
                }
                return sign == '/' ? x / y : x % y;
            };
        }
        return term;
    }

    private Sum factor(String open) {
        if (sign() == '[') {
            Sum inside = sum(opened(open, '['));
            need(']');
            return inside;
        }
        int letter = "pvnsdt".indexOf(sign());
        if (letter >= 0) {
            at++;
            return letters -> letters[letter];
        }
        int value = number(5);
        return letters -> value;
    }

    // ---- days

    private int[] letters(State s, int p) {
        return new int[] {p, s.pain[p], figuresOf(s, p), shown(s, p), s.album.size() % 100, since(s, p)};
    }

    private static int figuresOf(State s, int p) {
        int many = 0;
        for (Figure f : s.figures) {
            if (f != null && f.person() == p) {
                many++;
            }
        }
        return many;
    }

    private static int shown(State s, int p) {
        int many = 0;
        for (Pasted cut : s.album) {
            many += cut.whole() >> p & 1;
        }
        return many;
    }

    private static int since(State s, int p) {
        for (int ago = 1; ago < 99 && ago <= s.album.size(); ago++) {
            if ((s.album.get(s.album.size() - ago).whole() >> p & 1) == 1) {
                return ago;
            }
        }
        return 99;
    }

    private static boolean holds(Rule rule, int[] letters) {
        try {
            return rule.test().holds(letters);
        } catch (Refused refused) {
            return false;
        }
    }

    private int asked(char kind, int[] letters, int most) {
        for (Rule rule : law) {
            if (rule.kind() == kind && holds(rule, letters)) {
                try {
                    int value = rule.sum().value(letters);
                    return value < 0 ? 0 : value > most ? most : value;
                } catch (Refused refused) {
                    return 0;
                }
            }
        }
        return 0;
    }

    private void day(State s) {
        for (int p = 0; p < 16; p++) {
            int[] letters = letters(s, p);
            int pain = s.pain[p] + asked('w', letters, 99) - asked('l', letters, 99);
            s.pain[p] = pain < 0 ? 0 : pain > 99 ? 99 : pain;
        }
        int out = 0;
        for (int p = 0; p < 16; p++) {
            int[] letters = letters(s, p);
            boolean isOut = s.pain[p] > bound;
            for (Rule rule : law) {
                isOut |= rule.kind() == 'c' && holds(rule, letters);
            }
            out |= isOut ? 1 << p : 0;
        }
        Rect cut = largest(s, out);
        s.x = (int) ((25173L * s.x + 13849L) % 65536L);
        boolean slipped = s.x % 10 < asked('h', new int[] {0, 0, 0, 0, s.album.size() % 100, 0}, 10);
        if (slipped && cut != null && cut.h() > 1) {
            cut = new Rect(cut.x(), cut.y() + 1, cut.w(), cut.h() - 1);
        }
        if (cut == null) {
            s.album.add(new Pasted(new Rect(0, 0, 0, 0), 0, slipped));
        } else {
            s.album.add(new Pasted(cut, whole(s, cut), slipped));
        }
    }

    private int lived(State s, int n) {
        int from = s.album.size();
        for (int i = 0; i < n && s.album.size() < 9999; i++) {
            day(s);
        }
        return from;
    }

    int days(int n) {
        if (n < 1 || n > 30) {
            return -1;
        }
        int cells = 0;
        for (int i = lived(state, n); i < state.album.size(); i++) {
            cells += state.album.get(i).rect().cells();
        }
        return cells;
    }

    int tried(int n, int what) {
        if (n < 1 || n > 30 || what < 0 || what > 25 || what > 3 && what < 10) {
            return -1;
        }
        State s = state.copy();
        int from = lived(s, n);
        if (what >= 10) {
            return s.pain[what - 10];
        }
        int cells = 0;
        int slips = 0;
        for (int i = from; i < s.album.size(); i++) {
            cells += s.album.get(i).rect().cells();
            slips += s.album.get(i).slipped() ? 1 : 0;
        }
        if (what < 2) {
            return what == 0 ? cells : slips;
        }
        if (s.album.size() == from) {
            return 0;
        }
        Pasted last = s.album.get(s.album.size() - 1);
        return what == 2 ? last.rect().cells() : last.whole();
    }

    // ---- rectangles

    private static List<Rect> allRects() {
        List<Rect> all = new ArrayList<>();
        for (int y = 0; y < 12; y++) {
            for (int x = 0; x < 16; x++) {
                for (int w = 16 - x; w >= 1; w--) {
                    for (int h = 1; h <= 12 - y; h++) {
                        all.add(new Rect(x, y, w, h));
                    }
                }
            }
        }
        return all;
    }

    private static final List<Rect> RECTS = allRects();

    private static boolean[][] cells(State s, int persons) {
        boolean[][] taken = new boolean[12][16];
        for (Figure f : s.figures) {
            if (f != null && (persons >> f.person() & 1) == 1) {
                for (int y = f.y(); y < f.y() + f.h(); y++) {
                    for (int x = f.x(); x < f.x() + f.w(); x++) {
                        taken[y][x] = true;
                    }
                }
            }
        }
        return taken;
    }

    private static boolean isFree(boolean[][] taken, Rect r) {
        for (int y = r.y(); y < r.y() + r.h(); y++) {
            for (int x = r.x(); x < r.x() + r.w(); x++) {
                if (taken[y][x]) {
                    return false;
                }
            }
        }
        return true;
    }

    private static Rect largest(State s, int persons) {
        boolean[][] taken = cells(s, persons);
        Rect best = null;
        for (Rect r : RECTS) {
            boolean better = best == null || r.cells() > best.cells()
                    || r.cells() == best.cells() && r.isBeforeAmongLike(best);
            if (better && isFree(taken, r)) {
                best = r;
            }
        }
        return best;
    }

    private static boolean isWhole(Figure f, Rect r) {
        for (int y = f.y(); y < f.y() + f.h(); y++) {
            for (int x = f.x(); x < f.x() + f.w(); x++) {
                if (!r.has(x, y)) {
                    return false;
                }
            }
        }
        return true;
    }

    private static int whole(State s, Rect r) {
        int whole = 0;
        for (Figure f : s.figures) {
            if (f != null && isWhole(f, r)) {
                whole |= 1 << f.person();
            }
        }
        return whole;
    }

    private static int part(Rect r, int what) {
        return r == null ? -2 : r.part(what);
    }

    int without(int persons, int what) {
        return persons < 0 || persons > 65535 || what < 0 || what > 3 ? -1 : part(largest(state, persons), what);
    }

    int today(int what) {
        return what < 0 || what > 3 ? -1 : part(largest(state, painful()), what);
    }

    int sky(int what) {
        return what < 0 || what > 3 ? -1 : part(largest(state, 65535), what);
    }

    private int painful() {
        int bits = 0;
        for (int p = 0; p < 16; p++) {
            bits |= state.pain[p] > bound ? 1 << p : 0;
        }
        return bits;
    }

    int shows(int left, int top, int wide, int high, int what) {
        Rect rect = null;
        for (Rect r : RECTS) {
            if (r.x() == left && r.y() == top && r.w() == wide && r.h() == high) {
                rect = r;
            }
        }
        if (rect == null || what < 0 || what > 4) {
            return -1;
        }
        if (what == 4) {
            return (left == 0 ? 0 : 1) + (top == 0 ? 0 : 1) + (left + wide == 16 ? 0 : 1) + (top + high == 12 ? 0 : 1);
        }
        int some = 0;
        int near = 0;
        int headless = 0;
        for (Figure f : state.figures) {
            if (f == null) {
                continue;
            }
            boolean in = false;
            boolean head = false;
            boolean by = false;
            for (int y = f.y(); y < f.y() + f.h(); y++) {
                for (int x = f.x(); x < f.x() + f.w(); x++) {
                    in |= rect.has(x, y);
                    head |= rect.has(x, y) && y == f.y();
                    for (int k = 0; k < 9; k++) {
                        by |= rect.has(x + k % 3 - 1, y + k / 3 - 1);
                    }
                }
            }
            some |= in ? 1 << f.person() : 0;
            near |= by ? 1 << f.person() : 0;
            headless |= in && !head ? 1 << f.person() : 0;
        }
        int whole = whole(state, rect);
        return what == 0 ? whole : what == 1 ? some & ~whole : what == 2 ? headless : near & ~some;
    }

    private Rect smallestWith(int k, int persons) {
        Rect best = null;
        for (Rect r : RECTS) {
            if (best == null || r.cells() < best.cells() || r.cells() == best.cells() && r.isBeforeAmongLike(best)) {
                int whole = whole(state, r);
                if (Integer.bitCount(whole) >= k && (whole & persons) == persons) {
                    best = r;
                }
            }
        }
        return best;
    }

    int smallest(int k, int what) {
        return k < 1 || k > 16 || what < 0 || what > 3 ? -1 : part(smallestWith(k, 0), what);
    }

    int smallestOf(int persons, int what) {
        return persons < 1 || persons > 65535 || what < 0 || what > 3 ? -1 : part(smallestWith(0, persons), what);
    }

    // ---- figures and persons

    int figureIs(int i, int what) {
        if (i < 0 || i > 11 || state.figures[i] == null || what < 0 || what > 5) {
            return -1;
        }
        Figure f = state.figures[i];
        if (what < 5) {
            return new int[] {f.person(), f.x(), f.y(), f.w(), f.h()}[what];
        }
        int seen = 0;
        for (int cell = 0; cell < 192; cell++) {
            boolean hidden = false;
            for (int j = i + 1; j < 12; j++) {
                hidden |= state.figures[j] != null && state.figures[j].has(cell % 16, cell / 16);
            }
            seen += f.has(cell % 16, cell / 16) && !hidden ? 1 : 0;
        }
        return seen;
    }

    private int present() {
        int bits = 0;
        for (Figure f : state.figures) {
            bits |= f == null ? 0 : 1 << f.person();
        }
        return bits;
    }

    private boolean touch(int p, int q) {
        if (p == q) {
            return false;
        }
        boolean[][] a = cells(state, 1 << p);
        boolean[][] b = cells(state, 1 << q);
        for (int y = 0; y < 12; y++) {
            for (int x = 0; x < 16; x++) {
                boolean near = b[y][x] || y > 0 && b[y - 1][x] || y < 11 && b[y + 1][x]
                        || x > 0 && b[y][x - 1] || x < 15 && b[y][x + 1];
                if (a[y][x] && near) {
                    return true;
                }
            }
        }
        return false;
    }

    private int[] groups(int persons) {
        boolean[][] linked = new boolean[16][16];
        for (int p = 0; p < 16; p++) {
            for (int q = 0; q < 16; q++) {
                boolean both = (persons >> p & 1) == 1 && (persons >> q & 1) == 1;
                linked[p][q] = both && (p == q || touch(p, q));
            }
        }
        for (int k = 0; k < 16; k++) {
            for (int p = 0; p < 16; p++) {
                for (int q = 0; q < 16; q++) {
                    linked[p][q] |= linked[p][k] && linked[k][q];
                }
            }
        }
        int[] groups = new int[16];
        for (int p = 0; p < 16; p++) {
            for (int q = 0; q < 16; q++) {
                groups[p] |= linked[p][q] ? 1 << q : 0;
            }
        }
        return groups;
    }

    private int howManyGroups(int persons) {
        return (int) java.util.Arrays.stream(groups(persons)).filter(g -> g != 0).distinct().count();
    }

    int personIs(int p, int what) {
        if (p < 0 || p > 15 || what < 0 || what > 6) {
            return -1;
        }
        int touched = 0;
        for (int q = 0; q < 16; q++) {
            touched |= touch(p, q) ? 1 << q : 0;
        }
        switch (what) {
            case 0: return state.pain[p];
            case 1: return state.pain[p] > bound ? 1 : 0;
            case 2: return figuresOf(state, p);
            case 3: return shown(state, p);
            case 4: return since(state, p);
            case 5: return touched;
            default: return groups(present())[p];
        }
    }

    int printIs(int what) {
        int figures = 0;
        for (int i = 0; i < 12; i++) {
            figures |= state.figures[i] == null ? 0 : 1 << i;
        }
        int covered = 0;
        for (boolean[] row : cells(state, 65535)) {
            for (boolean cell : row) {
                covered += cell ? 1 : 0;
            }
        }
        int holds = 0;
        for (int p = 0; what == 4 && p < 16; p++) {
            if ((present() >> p & 1) == 1 && howManyGroups(present() & ~(1 << p)) > howManyGroups(present())) {
                holds |= 1 << p;
            }
        }
        switch (what) {
            case 0: return covered;
            case 1: return figures;
            case 2: return present();
            case 3: return howManyGroups(present());
            case 4: return holds;
            case 5: return painful();
            default: return -1;
        }
    }

    int family(int what) {
        int alone = 0;
        for (int p = 0; p < 16; p++) {
            alone |= (present() >> p & 1) == 1 && Integer.bitCount(groups(present())[p]) == 1 ? 1 << p : 0;
        }
        int columns = 0;
        int rows = 0;
        for (int line = 1; line < 16; line++) {
            boolean freeColumn = true;
            boolean freeRow = line < 12;
            for (Figure f : state.figures) {
                freeColumn &= f == null || !(f.x() < line && f.x() + f.w() - 1 >= line);
                freeRow &= f == null || !(f.y() < line && f.y() + f.h() - 1 >= line);
            }
            columns |= freeColumn ? 1 << line : 0;
            rows |= freeRow ? 1 << line : 0;
        }
        int middle = -2;
        double nearest = 1000;
        for (Figure f : state.figures) {
            if (f != null) {
                double way = Math.abs(f.x() + f.w() / 2.0 - 8) + Math.abs(f.y() + f.h() / 2.0 - 6);
                if (way < nearest) {
                    nearest = way;
                    middle = f.person();
                }
            }
        }
        return what == 0 ? alone : what == 1 ? middle : what == 2 ? columns : what == 3 ? rows : -1;
    }

    int mirror() {
        int many = 0;
        for (int i = 0; i < 12; i++) {
            Figure f = state.figures[i];
            if (f != null) {
                state.figures[i] = new Figure(f.person(), 16 - f.x() - f.w(), f.y(), f.w(), f.h());
                many++;
            }
        }
        return many;
    }

    int album(int i, int what) {
        if (i < 1 || i > 30 || what < 0 || what > 5) {
            return -1;
        }
        if (i > state.album.size()) {
            return -2;
        }
        Pasted cut = state.album.get(state.album.size() - i);
        return what < 4 ? cut.rect().part(what) : what == 4 ? cut.whole() : cut.slipped() ? 1 : 0;
    }

    // ---- what the tape tells of other things

    int pages(int n, int what) {
        if (n < 1 || n > 6 || what < 0 || what > 1 || tape.size() < 2 * n) {
            return -1;
        }
        String bytes = taken(2 * n);
        List<int[]> row = new ArrayList<>();
        for (int i = 0; i < n; i++) {
            row.add(new int[] {bytes.charAt(2 * i), bytes.charAt(2 * i + 1)});
        }
        for (int[] cut : row) {
            if (cut[0] < 1 || cut[0] > 16 || cut[1] < 1 || cut[1] > 12) {
                return -2;
            }
        }
        return what == 0 ? pagesOf(row) : fewest(new ArrayList<>(), row);
    }

    private static int fewest(List<int[]> ahead, List<int[]> rest) {
        if (rest.isEmpty()) {
            return pagesOf(ahead);
        }
        int fewest = 99;
        for (int i = 0; i < rest.size(); i++) {
            List<int[]> more = new ArrayList<>(ahead);
            more.add(rest.get(i));
            List<int[]> left = new ArrayList<>(rest);
            left.remove(i);
            fewest = Math.min(fewest, fewest(more, left));
        }
        return fewest;
    }

    private static int pagesOf(List<int[]> row) {
        int pages = 0;
        int x = 99;
        int stripTop = 99;
        int stripHigh = 0;
        for (int[] cut : row) {
            boolean beside = x + cut[0] <= 16 && stripTop + cut[1] <= 12;
            if (!beside) {
                x = 0;
                stripTop += stripHigh;
                stripHigh = 0;
                if (stripTop + cut[1] > 12) {
                    pages++;
                    stripTop = 0;
                }
            }
            x += cut[0];
            stripHigh = Math.max(stripHigh, cut[1]);
        }
        return pages;
    }

    int offcuts(int n, int length, int what) {
        if (n < 1 || n > 8 || length < 1 || length > 240 || what < 0 || what > 1 || tape.size() < n) {
            return -1;
        }
        String bytes = taken(n);
        for (char c : bytes.toCharArray()) {
            if (c == 0 || c > 60) {
                return -3;
            }
        }
        for (int many = 1; many <= n; many++) {
            for (int bits = 1; bits < 256; bits++) {
                int sum = 0;
                for (int i = 0; i < 8; i++) {
                    sum += (bits >> i & 1) == 0 ? 0 : i < n ? bytes.charAt(i) : 9999;
                }
                if (Integer.bitCount(bits) == many && sum == length) {
                    return what == 0 ? many : bits;
                }
            }
        }
        return -2;
    }

    int fold(int n) {
        if (n < 1 || n > 4) {
            return -1;
        }
        String strip = "v";
        for (int i = 1; i < n; i++) {
            String back = new StringBuilder(strip).reverse().toString();
            strip = strip + "v" + back.replace('v', '?').replace('m', 'v').replace('?', 'm');
        }
        int bits = 0;
        for (int i = 0; i < strip.length(); i++) {
            bits |= strip.charAt(i) == 'v' ? 1 << i : 0;
        }
        return bits;
    }

    int told(int n, int m, int persons, int what) {
        if (n < 1 || n > 12 || m < 0 || m > 10 || persons < 0 || persons > 65535 || what < 0 || what > 2
                || tape.size() < 2 * n + 2 * m) {
            return -1;
        }
        String bytes = taken(2 * n + 2 * m);
        for (int i = 0; i < 2 * m; i++) {
            if (bytes.charAt(2 * n + i) > 15) {
                return -3;
            }
        }
        int could = 0;
        for (int p = 0; p < 16; p++) {
            boolean showed = false;
            for (int i = 0; i < n; i++) {
                showed |= (bytes.charAt(2 * i) * 256 + bytes.charAt(2 * i + 1) >> p & 1) == 1;
            }
            could |= (persons >> p & 1) == 1 && !showed ? 1 << p : 0;
        }
        if (what == 0) {
            return could;
        }
        int best = -2;
        for (int some = 0; some < 65536; some++) {
            boolean fits = (some & ~could) == 0;
            for (int i = 0; fits && i < m; i++) {
                int a = bytes.charAt(2 * n + 2 * i);
                int b = bytes.charAt(2 * n + 2 * i + 1);
                fits = (some >> a & 1) == 1 || (some >> b & 1) == 1;
            }
            if (fits && (best == -2 || Integer.bitCount(some) < Integer.bitCount(best))) {
                best = some;
            }
        }
        return best == -2 ? -2 : what == 1 ? Integer.bitCount(best) : best;
    }

    int frames(int n, boolean turned) {
        if (n < 1 || n > 10 || tape.size() < 2 * n) {
            return -1;
        }
        String bytes = taken(2 * n);
        if (bytes.indexOf(0) >= 0) {
            return -2;
        }
        int most = 0;
        for (int outer = 0; outer < n; outer++) {
            most = Math.max(most, chain(bytes, n, outer, turned));
        }
        return most;
    }

    private static int chain(String bytes, int n, int outer, boolean turned) {
        int most = 1;
        int w = bytes.charAt(2 * outer);
        int h = bytes.charAt(2 * outer + 1);
        for (int i = 0; i < n; i++) {
            int a = bytes.charAt(2 * i);
            int b = bytes.charAt(2 * i + 1);
            if (a < w && b < h || turned && b < w && a < h) {
                most = Math.max(most, 1 + chain(bytes, n, i, turned));
            }
        }
        return most;
    }

    // ---- the rest

    boolean pain(int p, int much) {
        if (p < 0 || p > 15 || much < 0 || much > 99) {
            return false;
        }
        state.pain[p] = much;
        return true;
    }

    boolean bound(int much) {
        if (much < 0 || much > 99) {
            return false;
        }
        bound = much;
        return true;
    }

    boolean seed(int x) {
        if (x < 0 || x > 65535) {
            return false;
        }
        state.x = x;
        return true;
    }

    int keep() {
        kept = state.copy();
        return state.album.size();
    }

    boolean undo() {
        if (kept == null) {
            return false;
        }
        state = kept.copy();
        return true;
    }

    int check(int n) {
        if (n < 0 || n > 16 || tape.size() < n) {
            return -2;
        }
        String bytes = taken(n);
        for (int p = 0; p < n; p++) {
            if (bytes.charAt(p) != state.pain[p]) {
                return p;
            }
        }
        return -1;
    }

    int count(int what) {
        int all = 0;
        for (int pain : state.pain) {
            all += pain;
        }
        int size = state.album.size();
        return what < 0 || what > 6 ? -1 : new int[] {size, bound, law.size(), tape.size(), state.x, size, all}[what];
    }
}
