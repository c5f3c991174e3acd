import java.util.Arrays;

/** Prints that a firm cuts so that nobody shows who is painful; what each call answers stands in DOC.md. */
public final class MarginAlbum {
    public static final int NONE = -1;

    private static final int NOTHING = -2;
    private static final int UNFIT = -3;

    private static final int PERSONS = 16;
    private static final int ALL_PERSONS = 65535;
    private static final int FIGURES = 12;
    private static final int PRINT_WIDE = 16;
    private static final int PRINT_HIGH = 12;
    private static final int MOST_PAIN = 99;
    private static final int FIRST_BOUND = 50;
    private static final int MOST_X = 65535;

    private static final int MOST_TAPE = 260;
    private static final int FED_AT_ONCE = 20;
    private static final int END = -1;
    private static final int MOST_PRINT_TEXT = 160;
    private static final int MOST_EDITS_TEXT = 120;
    private static final int MOST_LAW_TEXT = 240;
    private static final int MOST_EDITS = 20;
    private static final int MOST_RULES = 16;
    private static final int MOST_OPEN = 6;

    private static final int MISPLACED = 1;
    private static final int TOO_MANY_DIGITS = 2;
    private static final int OUT_OF_PRINT = 3;
    private static final int TOO_MANY_LINES = 4;
    private static final int TOO_DEEP = 5;
    private static final int NOT_TOLD = 7;

    private static final int MOST_DAYS_AT_ONCE = 30;
    private static final int LAST_DAY = 9999;
    private static final int REMEMBERED = 30;
    private static final int CUT_PARTS = 6;
    private static final int LONG_AGO = 99;

    private static final int MOST_PASTED = 6;
    private static final int MOST_OFFCUTS = 8;
    private static final int MOST_OFFCUT = 60;
    private static final int MOST_EDGE = 240;
    private static final int MOST_FOLDS = 4;
    private static final int MOST_TOLD_CUTS = 12;
    private static final int MOST_TWOS = 10;
    private static final int MOST_FRAMES = 10;

    private final Tape tape = new Tape();
    private final Story now = new Story();
    private final Story kept = new Story();
    private final Story draft = new Story();
    private final Law theLaw = new Law();
    private final Law draftLaw = new Law();
    private final PrintReader printReader = new PrintReader(tape, draft.figures);
    private final EditReader editReader = new EditReader(tape, draft);
    private final LawReader lawReader = new LawReader(tape, draftLaw);
    private final Cutter cutter = new Cutter();
    private final Kin kin = new Kin();
    private final Shop shop = new Shop(tape);
    private int painBound = FIRST_BOUND;
    private boolean wasKept;

    public MarginAlbum() {
    }

    public boolean pain(int p, int much) {
        if (!isPerson(p) || !isWithin(much, 0, MOST_PAIN)) {
            return false;
        }
        now.setPain(p, much);
        return true;
    }

    public boolean bound(int much) {
        if (!isWithin(much, 0, MOST_PAIN)) {
            return false;
        }
        painBound = much;
        return true;
    }

    public int feed(int a, int b, int c, int d, int e) {
        if (tape.length() > MOST_TAPE - FED_AT_ONCE) {
            return NONE;
        }
        tape.append(a);
        tape.append(b);
        tape.append(c);
        tape.append(d);
        tape.append(e);
        return tape.length();
    }

    public int law(int n) {
        if (!isWithin(n, 1, MOST_LAW_TEXT) || !tape.holds(n)) {
            return NONE;
        }
        draftLaw.clear();
        int rules = lawReader.readLines(n);
        tape.clear();
        if (rules > 0) {
            theLaw.copyFrom(draftLaw);
        }
        return rules;
    }

    public int print(int n) {
        if (!isWithin(n, 1, MOST_PRINT_TEXT) || !tape.holds(n)) {
            return NONE;
        }
        draft.figures.clear();
        int lines = printReader.readLines(n);
        tape.clear();
        if (lines > 0) {
            now.figures.copyFrom(draft.figures);
        }
        return lines;
    }

    public int edits(int n) {
        if (!isWithin(n, 1, MOST_EDITS_TEXT) || !tape.holds(n)) {
            return NONE;
        }
        draft.copyFrom(now);
        int lines = editReader.readLines(n);
        tape.clear();
        if (lines > 0) {
            now.copyFrom(draft);
        }
        return lines;
    }

    public int mirror() {
        now.figures.turnOver();
        return now.figures.howMany();
    }

    public int days(int n) {
        if (!isWithin(n, 1, MOST_DAYS_AT_ONCE)) {
            return NONE;
        }
        now.live(n, theLaw, painBound, cutter);
        return now.tallied(0);
    }

    public int tried(int n, int what) {
        if (!isWithin(n, 1, MOST_DAYS_AT_ONCE)) {
            return NONE;
        }
        if (!isWithin(what, 0, 3) && !isPerson(what - 10)) {
            return NONE;
        }
        draft.copyFrom(now);
        draft.live(n, theLaw, painBound, cutter);
        return what < 10 ? draft.tallied(what) : draft.painOf(what - 10);
    }

    public int figureIs(int i, int what) {
        if (!now.figures.isTold(i)) {
            return NONE;
        }
        return what == 5 ? cutter.seen(now.figures, i) : now.figures.part(i, what);
    }

    public int personIs(int p, int what) {
        if (!isPerson(p)) {
            return NONE;
        }
        switch (what) {
            case 0:
                return now.painOf(p);
            case 1:
                return now.painOf(p) > painBound ? 1 : 0;
            case 2:
                return now.figures.howManyOf(p);
            case 3:
                return now.shownOf(p);
            case 4:
                return now.daysSinceShown(p);
            case 5:
                kin.meet(now.figures);
                return kin.touchedBy(p);
            case 6:
                kin.meet(now.figures);
                return kin.groupOf(p, now.figures.persons());
            default:
                return NONE;
        }
    }

    public int without(int persons, int what) {
        if (!arePersons(persons) || !isWithin(what, 0, 3)) {
            return NONE;
        }
        cutter.cutWithout(now.figures, persons);
        return cutter.part(what);
    }

    public int today(int what) {
        if (!isWithin(what, 0, 3)) {
            return NONE;
        }
        cutter.cutWithout(now.figures, now.painfulAbove(painBound));
        return cutter.part(what);
    }

    public int shows(int left, int top, int wide, int high, int what) {
        if (!isOnPrint(left, top, wide, high)) {
            return NONE;
        }
        Figures figures = now.figures;
        int whole = figures.wholeIn(left, top, wide, high);
        int met = figures.meeting(left, top, wide, high);
        switch (what) {
            case 0:
                return whole;
            case 1:
                return met & ~whole;
            case 2:
                return figures.headlessIn(left, top, wide, high);
            case 3:
                return figures.meeting(left - 1, top - 1, wide + 2, high + 2) & ~met;
            case 4:
                return (left > 0 ? 1 : 0) + (top > 0 ? 1 : 0)
                        + (left + wide < PRINT_WIDE ? 1 : 0) + (top + high < PRINT_HIGH ? 1 : 0);
            default:
                return NONE;
        }
    }

    public int sky(int what) {
        if (!isWithin(what, 0, 3)) {
            return NONE;
        }
        cutter.cutWithout(now.figures, ALL_PERSONS);
        return cutter.part(what);
    }

    public int smallest(int k, int what) {
        if (!isWithin(k, 1, PERSONS) || !isWithin(what, 0, 3)) {
            return NONE;
        }
        cutter.cutSmallest(now.figures, k, 0);
        return cutter.part(what);
    }

    public int smallestOf(int persons, int what) {
        if (!arePersons(persons) || persons == 0 || !isWithin(what, 0, 3)) {
            return NONE;
        }
        cutter.cutSmallest(now.figures, 0, persons);
        return cutter.part(what);
    }

    public int printIs(int what) {
        int persons = now.figures.persons();
        switch (what) {
            case 0:
                return cutter.covered(now.figures);
            case 1:
                return now.figures.bits();
            case 2:
                return persons;
            case 3:
                kin.meet(now.figures);
                return kin.groups(persons);
            case 4:
                kin.meet(now.figures);
                return kin.holding(persons);
            case 5:
                return now.painfulAbove(painBound);
            default:
                return NONE;
        }
    }

    public int family(int what) {
        switch (what) {
            case 0:
                kin.meet(now.figures);
                return kin.alone(now.figures.persons());
            case 1:
                return now.figures.middlePerson();
            case 2:
                return now.figures.straightColumns();
            case 3:
                return now.figures.straightRows();
            default:
                return NONE;
        }
    }

    public int album(int i, int what) {
        if (!isWithin(i, 1, REMEMBERED) || !isWithin(what, 0, CUT_PARTS - 1)) {
            return NONE;
        }
        return now.pasted(i, what);
    }

    public int pages(int n, int what) {
        if (!isWithin(n, 1, MOST_PASTED) || !isWithin(what, 0, 1) || !tape.holds(2 * n)) {
            return NONE;
        }
        int answer = shop.paste(n, what == 1);
        tape.clear();
        return answer;
    }

    public int offcuts(int n, int length, int what) {
        if (!isWithin(n, 1, MOST_OFFCUTS) || !isWithin(length, 1, MOST_EDGE)
                || !isWithin(what, 0, 1) || !tape.holds(n)) {
            return NONE;
        }
        int answer = shop.fitOffcuts(n, length);
        tape.clear();
        return what == 0 && answer > 0 ? Integer.bitCount(answer) : answer;
    }

    public int fold(int n) {
        return isWithin(n, 1, MOST_FOLDS) ? shop.creases(n) : NONE;
    }

    public int told(int n, int m, int persons, int what) {
        if (!isWithin(n, 1, MOST_TOLD_CUTS) || !isWithin(m, 0, MOST_TWOS) || !arePersons(persons)
                || !isWithin(what, 0, 2) || !tape.holds(2 * n + 2 * m)) {
            return NONE;
        }
        int answer = shop.guess(n, m, persons, what);
        tape.clear();
        return answer;
    }

    public int frames(int n, boolean turned) {
        if (!isWithin(n, 1, MOST_FRAMES) || !tape.holds(2 * n)) {
            return NONE;
        }
        int answer = shop.nest(n, turned);
        tape.clear();
        return answer;
    }

    public boolean seed(int x) {
        if (!isWithin(x, 0, MOST_X)) {
            return false;
        }
        now.setX(x);
        return true;
    }

    public int keep() {
        kept.copyFrom(now);
        wasKept = true;
        return now.day();
    }

    public boolean undo() {
        if (wasKept) {
            now.copyFrom(kept);
        }
        return wasKept;
    }

    public int check(int n) {
        if (!isWithin(n, 0, PERSONS) || !tape.holds(n)) {
            return NOTHING;
        }
        int wrong = NONE;
        for (int p = 0; p < n && wrong == NONE; p++) {
            if (tape.byteAt(p) != now.painOf(p)) {
                wrong = p;
            }
        }
        tape.clear();
        return wrong;
    }

    public int count(int what) {
        switch (what) {
            case 0:
                return now.day();
            case 1:
                return painBound;
            case 2:
                return theLaw.howManyRules();
            case 3:
                return tape.length();
            case 4:
                return now.x();
            case 5:
                // each DAY leaves just one CUT, and both are KEPT and UNDONE together
                return now.day();
            case 6:
                return now.painOfAll();
            default:
                return NONE;
        }
    }

    private static boolean isWithin(int value, int least, int most) {
        return value >= least && value <= most;
    }

    private static boolean isPerson(int p) {
        return isWithin(p, 0, PERSONS - 1);
    }

    private static boolean arePersons(int bits) {
        return isWithin(bits, 0, ALL_PERSONS);
    }

    private static boolean isOnPrint(int left, int top, int wide, int high) {
        return isWithin(left, 0, PRINT_WIDE - 1) && isWithin(top, 0, PRINT_HIGH - 1)
                && isWithin(wide, 1, PRINT_WIDE - left) && isWithin(high, 1, PRINT_HIGH - top);
    }

    /** The bytes that were fed, and the place up to which a text at their front is read. */
    private static final class Tape {
        private final int[] bytes = new int[MOST_TAPE];
        private int length;
        private int end;
        private int at;
        private int numberAt;
        private int fault;

        int length() {
            return length;
        }

        boolean holds(int n) {
            return n <= length;
        }

        void append(int word) {
            for (int shift = 24; shift >= 0; shift -= 8) {
                if (length < bytes.length) {
                    bytes[length] = (word >>> shift) & 255;
                    length++;
                }
            }
        }

        void clear() {
            length = 0;
        }

        int byteAt(int place) {
            return place >= 0 && place < length && place < bytes.length ? bytes[place] : END;
        }

        void beginText(int n) {
            end = Math.min(n, length);
            at = 0;
            numberAt = 0;
            fault = 0;
        }

        boolean isAtEnd() {
            return at >= end;
        }

        boolean isFaulty() {
            return fault != 0;
        }

        int fault() {
            return fault;
        }

        int peek() {
            return at >= 0 && at < end && at < bytes.length ? bytes[at] : END;
        }

        void step() {
            at++;
        }

        boolean take(int sign) {
            if (peek() == sign) {
                at++;
                return true;
            }
            refuseAt(MISPLACED, at);
            return false;
        }

        void refuse(int number) {
            refuseAt(number, at);
        }

        void refuseNumber(int number) {
            refuseAt(number, numberAt);
        }

        private void refuseAt(int number, int place) {
            // what is found first stands furthest left: a later find never takes its place
            if (fault == 0) {
                fault = -1000 * number - place;
            }
        }

        int readNumber(int mostDigits) {
            numberAt = at;
            int value = 0;
            for (int digits = 0; digits < mostDigits && isAtDigit(); digits++) {
                value = 10 * value + peek() - '0';
                at++;
            }
            if (at == numberAt) {
                refuseAt(MISPLACED, at);
            } else if (isAtDigit()) {
                refuseAt(TOO_MANY_DIGITS, at);
            }
            return value;
        }

        private boolean isAtDigit() {
            return at >= 0 && at < end && at < bytes.length && bytes[at] >= '0' && bytes[at] <= '9';
        }
    }

    /** Reads a text of lines with a ; between two. */
    private abstract static class LineReader {
        final Tape text;
        private final int mostLines;

        LineReader(Tape text, int mostLines) {
            this.text = text;
            this.mostLines = mostLines;
        }

        abstract boolean canBegin(int sign);

        abstract void readLine(int line);

        final int readLines(int n) {
            text.beginText(n);
            for (int line = 0; line <= mostLines; line++) {
                if (!canBegin(text.peek())) {
                    text.refuse(MISPLACED);
                } else if (line == mostLines) {
                    text.refuse(TOO_MANY_LINES);
                } else {
                    readLine(line);
                }
                if (text.isFaulty()) {
                    return text.fault();
                }
                if (text.isAtEnd()) {
                    return line + 1;
                }
                if (!text.take(';')) {
                    return text.fault();
                }
            }
            return text.fault();
        }

        static boolean isPersonLetter(int sign) {
            return sign >= 'a' && sign <= 'p';
        }
    }

    private static final class PrintReader extends LineReader {
        private final Figures figures;

        PrintReader(Tape text, Figures figures) {
            super(text, FIGURES);
            this.figures = figures;
        }

        boolean canBegin(int sign) {
            return isPersonLetter(sign);
        }

        void readLine(int line) {
            int person = text.peek() - 'a';
            text.step();
            int left = readWithin(0, PRINT_WIDE - 1);
            text.take(',');
            int top = readWithin(0, PRINT_HIGH - 1);
            text.take(':');
            int wide = readWithin(1, PRINT_WIDE - left);
            text.take('x');
            int high = readWithin(1, PRINT_HIGH - top);
            if (!text.isFaulty()) {
                figures.tell(line, person);
                figures.place(line, left, top, wide, high);
            }
        }

        private int readWithin(int least, int most) {
            int value = text.readNumber(2);
            if (value < least || value > most) {
                text.refuseNumber(OUT_OF_PRINT);
            }
            return value;
        }
    }

    /** Does each line to the draft as it is read, as the next line may ask for what it leaves. */
    private static final class EditReader extends LineReader {
        private final Story draft;

        EditReader(Tape text, Story draft) {
            super(text, MOST_EDITS);
            this.draft = draft;
        }

        boolean canBegin(int sign) {
            return sign == '#' || isPersonLetter(sign);
        }

        void readLine(int line) {
            int sign = text.peek();
            text.step();
            if (sign == '#') {
                readFigureEdit();
            } else {
                readPainEdit(sign - 'a');
            }
        }

        private void readPainEdit(int person) {
            int sign = text.peek();
            if (sign != '+' && sign != '-') {
                text.refuse(MISPLACED);
                return;
            }
            text.step();
            int much = text.readNumber(2);
            draft.setPain(person, draft.painOf(person) + (sign == '+' ? much : -much));
        }

        private void readFigureEdit() {
            int figure = text.readNumber(2);
            if (!draft.figures.isTold(figure)) {
                text.refuseNumber(NOT_TOLD);
            }
            switch (text.peek()) {
                case '<':
                    draft.figures.move(figure, -1, 0);
                    break;
                case '>':
                    draft.figures.move(figure, 1, 0);
                    break;
                case '^':
                    draft.figures.move(figure, 0, -1);
                    break;
                case '_':
                    draft.figures.move(figure, 0, 1);
                    break;
                case '!':
                    draft.figures.takeOut(figure);
                    break;
                default:
                    text.refuse(MISPLACED);
                    break;
            }
            text.step();
        }
    }

    /** Writes each rule's E and C down in the order in which they are reckoned, without ( and [. */
    private static final class LawReader extends LineReader {
        private final Law draft;

        LawReader(Tape text, Law draft) {
            super(text, MOST_RULES);
            this.draft = draft;
        }

        boolean canBegin(int sign) {
            return sign == 'w' || sign == 'l' || sign == 'h' || sign == 'c';
        }

        void readLine(int line) {
            int kind = text.peek();
            text.step();
            draft.beginRule(kind);
            if (kind != 'c') {
                readSum(0);
            }
            draft.beginCondition();
            if (text.take('(')) {
                readCondition(1);
                text.take(')');
            }
            draft.endRule();
        }

        private void readCondition(int open) {
            boolean orWaits = false;
            readTest(open);
            int sign = text.peek();
            for (int i = 0; i < MOST_LAW_TEXT && (sign == '&' || sign == '|'); i++) {
                text.step();
                if (sign == '|' && orWaits) {
                    draft.add('|', 0);
                }
                readTest(open);
                if (sign == '&') {
                    draft.add('&', 0);
                } else {
                    orWaits = true;
                }
                sign = text.peek();
            }
            if (orWaits) {
                draft.add('|', 0);
            }
        }

        private void readTest(int open) {
            int sign = text.peek();
            if (sign == '!' || sign == '(') {
                readOpenTest(sign, open);
                return;
            }
            readSum(open);
            int compared = text.peek();
            if (compared != '<' && compared != '>' && compared != '=') {
                text.refuse(MISPLACED);
                return;
            }
            text.step();
            readSum(open);
            draft.add(compared, 0);
        }

        private void readOpenTest(int sign, int open) {
            if (open >= MOST_OPEN) {
                text.refuse(TOO_DEEP);
                return;
            }
            text.step();
            if (sign == '!') {
                readTest(open + 1);
                draft.add('!', 0);
            } else {
                readCondition(open + 1);
                text.take(')');
            }
        }

        private void readSum(int open) {
            int waiting = 0;
            readFactor(open);
            int sign = text.peek();
            for (int i = 0; i < MOST_LAW_TEXT && joinsNumbers(sign); i++) {
                text.step();
                boolean adds = sign == '+' || sign == '-';
                if (adds && waiting != 0) {
                    draft.add(waiting, 0);
                }
                readFactor(open);
                if (adds) {
                    waiting = sign;
                } else {
                    draft.add(sign, 0);
                }
                sign = text.peek();
            }
            if (waiting != 0) {
                draft.add(waiting, 0);
            }
        }

        private static boolean joinsNumbers(int sign) {
            return sign == '+' || sign == '-' || sign == '*' || sign == '/' || sign == '%';
        }

        private void readFactor(int open) {
            int sign = text.peek();
            if (sign == '[') {
                if (open >= MOST_OPEN) {
                    text.refuse(TOO_DEEP);
                    return;
                }
                text.step();
                readSum(open + 1);
                text.take(']');
            } else if (sign >= '0' && sign <= '9') {
                draft.add(Law.NUMBER, text.readNumber(5));
            } else if (Law.isLetter(sign)) {
                draft.add(sign, 0);
                text.step();
            } else {
                text.refuse(MISPLACED);
            }
        }
    }

    /** The rules, each as signs behind the values that they join. */
    private static final class Law {
        static final int NUMBER = 0;
        private static final int MOST_SIGNS = 256;
        private static final int MOST_VALUES = 64;
        // no int is as far from 0: so it is told from every value that was reckoned
        private static final long REFUSED = 1L << 40;

        private final int[] kinds = new int[MOST_RULES];
        private final int[] expressions = new int[MOST_RULES];
        private final int[] conditions = new int[MOST_RULES];
        private final int[] ends = new int[MOST_RULES];
        private final int[] signs = new int[MOST_SIGNS];
        private final int[] numbers = new int[MOST_SIGNS];
        private final long[] values = new long[MOST_VALUES];
        private int rules;
        private int length;
        private int person;
        private int pain;
        private int figures;
        private int shown;
        private int day;
        private int since;

        static boolean isLetter(int sign) {
            return sign == 'p' || sign == 'v' || sign == 'n' || sign == 's' || sign == 'd' || sign == 't';
        }

        int howManyRules() {
            return rules;
        }

        void clear() {
            rules = 0;
            length = 0;
        }

        void copyFrom(Law other) {
            System.arraycopy(other.kinds, 0, kinds, 0, MOST_RULES);
            System.arraycopy(other.expressions, 0, expressions, 0, MOST_RULES);
            System.arraycopy(other.conditions, 0, conditions, 0, MOST_RULES);
            System.arraycopy(other.ends, 0, ends, 0, MOST_RULES);
            System.arraycopy(other.signs, 0, signs, 0, MOST_SIGNS);
            System.arraycopy(other.numbers, 0, numbers, 0, MOST_SIGNS);
            rules = other.rules;
            length = other.length;
        }

        void beginRule(int kind) {
            if (rules < kinds.length) {
                kinds[rules] = kind;
                expressions[rules] = length;
            }
        }

        void beginCondition() {
            if (rules < conditions.length) {
                conditions[rules] = length;
            }
        }

        void endRule() {
            if (rules < ends.length) {
                ends[rules] = length;
                rules++;
            }
        }

        void add(int sign, int number) {
            if (length < signs.length) {
                signs[length] = sign;
                numbers[length] = number;
                length++;
            }
        }

        void setPerson(int p, int v, int n, int s, int t) {
            person = p;
            pain = v;
            figures = n;
            shown = s;
            since = t;
        }

        void setDay(int d) {
            day = d;
        }

        int ask(int kind, int most) {
            for (int rule = 0; rule < rules && rule < MOST_RULES; rule++) {
                if (kinds[rule] == kind && holds(rule)) {
                    long value = reckon(expressions[rule], conditions[rule]);
                    return value == REFUSED ? 0 : (int) Math.max(0, Math.min(most, value));
                }
            }
            return 0;
        }

        boolean isLeftOut() {
            for (int rule = 0; rule < rules && rule < MOST_RULES; rule++) {
                if (kinds[rule] == 'c' && holds(rule)) {
                    return true;
                }
            }
            return false;
        }

        private boolean holds(int rule) {
            return rule >= 0 && rule < MOST_RULES && reckon(conditions[rule], ends[rule]) == 1;
        }

        private long reckon(int from, int to) {
            int held = 0;
            for (int i = Math.max(0, from); i < to && i < signs.length; i++) {
                int sign = signs[i];
                if (sign == NUMBER || isLetter(sign)) {
                    if (held < values.length) {
                        values[held] = sign == NUMBER ? numbers[i] : letterValue(sign);
                        held++;
                    }
                } else if (sign == '!') {
                    if (held >= 1 && held <= values.length && values[held - 1] != REFUSED) {
                        values[held - 1] = 1 - values[held - 1];
                    }
                } else if (held >= 2 && held <= values.length) {
                    held--;
                    values[held - 1] = joined(sign, values[held - 1], values[held]);
                }
            }
            return held > 0 ? values[0] : 0;
        }

        private long letterValue(int sign) {
            switch (sign) {
                case 'p':
                    return person;
                case 'v':
                    return pain;
                case 'n':
                    return figures;
                case 's':
                    return shown;
                case 'd':
                    return day;
                default:
                    return since;
            }
        }

        private static long joined(int sign, long left, long right) {
            // where the left one settles it, the right one is not asked: what it was refused doesn't matter
            if (sign == '&') {
                return left == 1 ? right : left;
            }
            if (sign == '|') {
                return left == 0 ? right : left;
            }
            if (left == REFUSED || right == REFUSED) {
                return REFUSED;
            }
            int a = (int) left;
            int b = (int) right;
            switch (sign) {
                case '+':
                    return a + b;
                case '-':
                    return a - b;
                case '*':
                    return a * b;
                case '/':
                    return b == 0 ? REFUSED : a / b;
                case '%':
                    return b == 0 ? REFUSED : a % b;
                case '<':
                    return a < b ? 1 : 0;
                case '>':
                    return a > b ? 1 : 0;
                default:
                    return a == b ? 1 : 0;
            }
        }
    }

    /** The figures of a print, by their numbers. */
    private static final class Figures {
        private final int[] person = new int[FIGURES];
        private final int[] left = new int[FIGURES];
        private final int[] top = new int[FIGURES];
        private final int[] wide = new int[FIGURES];
        private final int[] high = new int[FIGURES];

        Figures() {
            Arrays.fill(person, NONE);
        }

        void clear() {
            Arrays.fill(person, NONE);
        }

        void copyFrom(Figures other) {
            System.arraycopy(other.person, 0, person, 0, FIGURES);
            System.arraycopy(other.left, 0, left, 0, FIGURES);
            System.arraycopy(other.top, 0, top, 0, FIGURES);
            System.arraycopy(other.wide, 0, wide, 0, FIGURES);
            System.arraycopy(other.high, 0, high, 0, FIGURES);
        }

        boolean isTold(int i) {
            return i >= 0 && i < FIGURES && person[i] != NONE;
        }

        void tell(int i, int p) {
            if (i >= 0 && i < FIGURES) {
                person[i] = p;
            }
        }

        void place(int i, int itsLeft, int itsTop, int itsWide, int itsHigh) {
            if (i >= 0 && i < FIGURES) {
                left[i] = itsLeft;
                top[i] = itsTop;
                wide[i] = itsWide;
                high[i] = itsHigh;
            }
        }

        void takeOut(int i) {
            tell(i, NONE);
        }

        void move(int i, int right, int down) {
            if (isTold(i) && isOnPrint(left[i] + right, top[i] + down, wide[i], high[i])) {
                left[i] += right;
                top[i] += down;
            }
        }

        void turnOver() {
            for (int i = 0; i < FIGURES; i++) {
                if (person[i] != NONE) {
                    left[i] = PRINT_WIDE - left[i] - wide[i];
                }
            }
        }

        int part(int i, int what) {
            if (!isTold(i)) {
                return NONE;
            }
            switch (what) {
                case 0:
                    return person[i];
                case 1:
                    return left[i];
                case 2:
                    return top[i];
                case 3:
                    return wide[i];
                case 4:
                    return high[i];
                default:
                    return NONE;
            }
        }

        int bits() {
            int told = 0;
            for (int i = 0; i < FIGURES; i++) {
                if (person[i] != NONE) {
                    told |= 1 << i;
                }
            }
            return told;
        }

        int howMany() {
            return Integer.bitCount(bits());
        }

        int persons() {
            int present = 0;
            for (int i = 0; i < FIGURES; i++) {
                present |= personBit(i);
            }
            return present;
        }

        int lefts() {
            int columns = 0;
            for (int i = 0; i < FIGURES; i++) {
                columns |= isTold(i) ? 1 << left[i] : 0;
            }
            return columns;
        }

        int tops() {
            int rows = 0;
            for (int i = 0; i < FIGURES; i++) {
                rows |= isTold(i) ? 1 << top[i] : 0;
            }
            return rows;
        }

        int howManyOf(int p) {
            int many = 0;
            for (int i = 0; i < FIGURES; i++) {
                if (person[i] == p) {
                    many++;
                }
            }
            return many;
        }

        int personBit(int i) {
            return isTold(i) ? 1 << person[i] : 0;
        }

        /** The columns of figure i as bits if it has cells in the row, else 0. */
        int cellsInRow(int i, int row) {
            if (!isTold(i) || row < top[i] || row >= top[i] + high[i]) {
                return 0;
            }
            return ((1 << wide[i]) - 1) << left[i];
        }

        int wholeIn(int x, int y, int w, int h) {
            int whole = 0;
            for (int i = 0; i < FIGURES; i++) {
                if (left[i] >= x && left[i] + wide[i] <= x + w && top[i] >= y && top[i] + high[i] <= y + h) {
                    whole |= personBit(i);
                }
            }
            return whole;
        }

        int meeting(int x, int y, int w, int h) {
            int met = 0;
            for (int i = 0; i < FIGURES; i++) {
                if (meets(i, x, y, w, h)) {
                    met |= personBit(i);
                }
            }
            return met;
        }

        int headlessIn(int x, int y, int w, int h) {
            int headless = 0;
            for (int i = 0; i < FIGURES; i++) {
                // a figure's rows hang together: with cells inside, its head is lost only above
                if (meets(i, x, y, w, h) && top[i] < y) {
                    headless |= personBit(i);
                }
            }
            return headless;
        }

        private boolean meets(int i, int x, int y, int w, int h) {
            return isTold(i) && left[i] < x + w && x < left[i] + wide[i] && top[i] < y + h && y < top[i] + high[i];
        }

        boolean touch(int i, int j) {
            if (!isTold(i) || !isTold(j)) {
                return false;
            }
            return meets(i, left[j] - 1, top[j], wide[j] + 2, high[j])
                    || meets(i, left[j], top[j] - 1, wide[j], high[j] + 2);
        }

        int middlePerson() {
            int nearest = NOTHING;
            int least = 2 * (PRINT_WIDE + PRINT_HIGH);
            for (int i = 0; i < FIGURES; i++) {
                // twice the way, so that a middle between two cells needs no half
                int way = Math.abs(2 * left[i] + wide[i] - PRINT_WIDE) + Math.abs(2 * top[i] + high[i] - PRINT_HIGH);
                if (person[i] != NONE && way < least) {
                    least = way;
                    nearest = person[i];
                }
            }
            return nearest;
        }

        int straightColumns() {
            int free = (1 << PRINT_WIDE) - 2;
            for (int i = 0; i < FIGURES; i++) {
                if (person[i] != NONE) {
                    free &= ~insideLines(left[i], wide[i]);
                }
            }
            return free;
        }

        int straightRows() {
            int free = (1 << PRINT_HIGH) - 2;
            for (int i = 0; i < FIGURES; i++) {
                if (person[i] != NONE) {
                    free &= ~insideLines(top[i], high[i]);
                }
            }
            return free;
        }

        private static int insideLines(int start, int length) {
            return ((1 << (length - 1)) - 1) << (start + 1);
        }
    }

    /** All that is kept and undone: figures, pain, the album, the day, x; and what the last days came to. */
    private static final class Story {
        final Figures figures = new Figures();
        private final int[] pain = new int[PERSONS];
        private final int[] shown = new int[PERSONS];
        // THE DAY after the one in whose CUT each showed last, 0: never
        private final int[] lastShown = new int[PERSONS];
        private final int[] cuts = new int[REMEMBERED * CUT_PARTS];
        private int day;
        private int x = 1;
        private int cells;
        private int slips;
        private int lastCells;
        private int lastWhole;

        void copyFrom(Story other) {
            figures.copyFrom(other.figures);
            System.arraycopy(other.pain, 0, pain, 0, PERSONS);
            System.arraycopy(other.shown, 0, shown, 0, PERSONS);
            System.arraycopy(other.lastShown, 0, lastShown, 0, PERSONS);
            System.arraycopy(other.cuts, 0, cuts, 0, REMEMBERED * CUT_PARTS);
            day = other.day;
            x = other.x;
        }

        int day() {
            return day;
        }

        int x() {
            return x;
        }

        void setX(int newX) {
            x = newX;
        }

        int painOf(int p) {
            return isPerson(p) ? pain[p] : 0;
        }

        void setPain(int p, int much) {
            if (isPerson(p)) {
                pain[p] = Math.max(0, Math.min(MOST_PAIN, much));
            }
        }

        int painOfAll() {
            int all = 0;
            for (int p = 0; p < PERSONS; p++) {
                all += pain[p];
            }
            return all;
        }

        int painfulAbove(int bound) {
            int painful = 0;
            for (int p = 0; p < PERSONS; p++) {
                if (pain[p] > bound) {
                    painful |= 1 << p;
                }
            }
            return painful;
        }

        int shownOf(int p) {
            return isPerson(p) ? shown[p] : 0;
        }

        int daysSinceShown(int p) {
            if (!isPerson(p) || lastShown[p] == 0) {
                return LONG_AGO;
            }
            return Math.min(LONG_AGO, day - lastShown[p] + 1);
        }

        int pasted(int daysAgo, int what) {
            if (daysAgo < 1 || daysAgo > day) {
                return NOTHING;
            }
            int place = cutPlace(day - daysAgo) + what;
            return place >= 0 && place < cuts.length ? cuts[place] : NOTHING;
        }

        private static int cutPlace(int ofDay) {
            return ofDay % REMEMBERED * CUT_PARTS;
        }

        int tallied(int what) {
            switch (what) {
                case 0:
                    return cells;
                case 1:
                    return slips;
                case 2:
                    return lastCells;
                default:
                    return lastWhole;
            }
        }

        void live(int days, Law law, int bound, Cutter cutter) {
            cells = 0;
            slips = 0;
            lastCells = 0;
            lastWhole = 0;
            for (int i = 0; i < days && day < LAST_DAY; i++) {
                law.setDay(day % 100);
                changePain(law);
                cutter.cutWithout(figures, painfulAbove(bound) | leftOut(law));
                boolean slipped = slip(law);
                if (slipped) {
                    cutter.loseTopRow();
                }
                paste(cutter, slipped);
            }
        }

        private void changePain(Law law) {
            for (int p = 0; p < PERSONS; p++) {
                tellOf(p, law);
                int more = law.ask('w', MOST_PAIN);
                int less = law.ask('l', MOST_PAIN);
                setPain(p, pain[p] + more - less);
            }
        }

        private int leftOut(Law law) {
            int persons = 0;
            for (int p = 0; p < PERSONS; p++) {
                tellOf(p, law);
                if (law.isLeftOut()) {
                    persons |= 1 << p;
                }
            }
            return persons;
        }

        private void tellOf(int p, Law law) {
            law.setPerson(p, painOf(p), figures.howManyOf(p), shownOf(p), daysSinceShown(p));
        }

        private boolean slip(Law law) {
            x = (25173 * x + 13849) & MOST_X;
            law.setPerson(0, 0, 0, 0, 0);
            boolean slipped = x % 10 < law.ask('h', 10);
            if (slipped) {
                slips++;
            }
            return slipped;
        }

        private void paste(Cutter cutter, boolean slipped) {
            lastCells = cutter.cells();
            cells += lastCells;
            lastWhole = lastCells == 0 ? 0 : cutter.wholeInCut(figures);
            int place = cutPlace(day);
            if (place >= 0 && place + CUT_PARTS <= cuts.length) {
                for (int what = 0; what < 4; what++) {
                    cuts[place + what] = lastCells == 0 ? 0 : cutter.part(what);
                }
                cuts[place + 4] = lastWhole;
                cuts[place + 5] = slipped ? 1 : 0;
            }
            day++;
            for (int p = 0; p < PERSONS; p++) {
                if ((lastWhole >> p & 1) == 1) {
                    shown[p]++;
                    lastShown[p] = day;
                }
            }
        }
    }

    /** Finds rectangles on a print; the last one found stays until the next is looked for. */
    private static final class Cutter {
        private final int[] rows = new int[PRINT_HIGH];
        private int left;
        private int top;
        private int wide;
        private int high;

        int cells() {
            return wide * high;
        }

        int part(int what) {
            if (cells() == 0) {
                return NOTHING;
            }
            switch (what) {
                case 0:
                    return left;
                case 1:
                    return top;
                case 2:
                    return wide;
                default:
                    return high;
            }
        }

        void loseTopRow() {
            if (high > 1) {
                top++;
                high--;
            }
        }

        int wholeInCut(Figures figures) {
            return figures.wholeIn(left, top, wide, high);
        }

        void cutWithout(Figures figures, int persons) {
            layOut(figures, persons, 0);
            put(0, 0, 0, 0);
            for (int y = 0; y < PRINT_HIGH; y++) {
                int used = 0;
                for (int below = y; below < PRINT_HIGH; below++) {
                    used |= rows[below];
                    offerFreeRuns(used, y, below - y + 1);
                }
            }
        }

        private void offerFreeRuns(int used, int y, int h) {
            int start = 0;
            for (int x = 0; x <= PRINT_WIDE; x++) {
                if (x == PRINT_WIDE || (used >> x & 1) == 1) {
                    int more = (x - start) * h - cells();
                    if (more > 0 || more == 0 && x > start && isAhead(start, y, x - start)) {
                        put(start, y, x - start, h);
                    }
                    start = x + 1;
                }
            }
        }

        /** At least so many persons whole in it and all the given ones. */
        void cutSmallest(Figures figures, int many, int persons) {
            put(0, 0, 0, 0);
            int present = figures.persons();
            if (Integer.bitCount(present) < many || (persons & ~present) != 0) {
                return;
            }
            // a rectangle that no figure reaches at the left and on top has a smaller one in it
            int lefts = figures.lefts();
            int tops = figures.tops();
            for (int y = 0; y < PRINT_HIGH; y++) {
                for (int x = 0; x < PRINT_WIDE; x++) {
                    if ((tops >> y & 1) == 1 && (lefts >> x & 1) == 1) {
                        shrinkFrom(figures, x, y, many, persons);
                    }
                }
            }
        }

        private void shrinkFrom(Figures figures, int x, int y, int many, int persons) {
            for (int h = 1; h <= PRINT_HIGH - y; h++) {
                for (int w = 1; w <= PRINT_WIDE - x; w++) {
                    int more = w * h - cells();
                    if (cells() == 0 || more < 0 || more == 0 && isAhead(x, y, w)) {
                        int whole = figures.wholeIn(x, y, w, h);
                        if (Integer.bitCount(whole) >= many && (persons & ~whole) == 0) {
                            put(x, y, w, h);
                        }
                    }
                }
            }
        }

        private boolean isAhead(int x, int y, int w) {
            if (y != top) {
                return y < top;
            }
            return x != left ? x < left : w > wide;
        }

        private void put(int x, int y, int w, int h) {
            left = x;
            top = y;
            wide = w;
            high = h;
        }

        int covered(Figures figures) {
            layOut(figures, ALL_PERSONS, 0);
            int many = 0;
            for (int y = 0; y < PRINT_HIGH; y++) {
                many += Integer.bitCount(rows[y]);
            }
            return many;
        }

        int seen(Figures figures, int i) {
            layOut(figures, ALL_PERSONS, i + 1);
            int many = 0;
            for (int y = 0; y < PRINT_HIGH; y++) {
                many += Integer.bitCount(figures.cellsInRow(i, y) & ~rows[y]);
            }
            return many;
        }

        private void layOut(Figures figures, int persons, int first) {
            Arrays.fill(rows, 0);
            for (int i = Math.max(0, first); i < FIGURES; i++) {
                if ((figures.personBit(i) & persons) != 0) {
                    for (int y = 0; y < PRINT_HIGH; y++) {
                        rows[y] |= figures.cellsInRow(i, y);
                    }
                }
            }
        }
    }

    /** Who touches whom on a print. */
    private static final class Kin {
        private final int[] touched = new int[PERSONS];

        void meet(Figures figures) {
            Arrays.fill(touched, 0);
            for (int i = 0; i < FIGURES; i++) {
                for (int j = 0; j < FIGURES; j++) {
                    int p = figures.part(i, 0);
                    if (isPerson(p) && figures.touch(i, j)) {
                        touched[p] |= figures.personBit(j) & ~(1 << p);
                    }
                }
            }
        }

        int touchedBy(int p) {
            return isPerson(p) ? touched[p] : 0;
        }

        int groupOf(int p, int present) {
            if (!isPerson(p)) {
                return 0;
            }
            int group = 1 << p & present;
            int before = 0;
            for (int round = 0; round < PERSONS && group != before; round++) {
                before = group;
                for (int q = 0; q < PERSONS; q++) {
                    if ((group >> q & 1) == 1) {
                        group |= touched[q] & present;
                    }
                }
            }
            return group;
        }

        int groups(int present) {
            int many = 0;
            int left = present;
            for (int p = 0; p < PERSONS; p++) {
                if ((left >> p & 1) == 1) {
                    left &= ~groupOf(p, present);
                    many++;
                }
            }
            return many;
        }

        int holding(int present) {
            int all = groups(present);
            int holders = 0;
            for (int p = 0; p < PERSONS; p++) {
                if (groups(present & ~(1 << p)) > all) {
                    holders |= 1 << p;
                }
            }
            return holders;
        }

        int alone(int present) {
            int persons = 0;
            for (int p = 0; p < PERSONS; p++) {
                if ((present >> p & 1) == 1 && touched[p] == 0) {
                    persons |= 1 << p;
                }
            }
            return persons;
        }
    }

    /** What is made of cuts, offcuts and frames that the tape tells. */
    private static final class Shop {
        private final Tape tape;
        private final int[] wides = new int[MOST_FRAMES];
        private final int[] highs = new int[MOST_FRAMES];
        private final int[] chains = new int[MOST_FRAMES];
        private int right;
        private int stripTop;
        private int stripHigh;
        private int pageCount;

        Shop(Tape tape) {
            this.tape = tape;
        }

        private void readSizes(int n) {
            for (int i = 0; i < n && i < MOST_FRAMES; i++) {
                wides[i] = tape.byteAt(2 * i);
                highs[i] = tape.byteAt(2 * i + 1);
            }
        }

        int paste(int n, boolean anyOrder) {
            readSizes(n);
            for (int i = 0; i < n && i < MOST_FRAMES; i++) {
                if (!isOnPrint(0, 0, wides[i], highs[i])) {
                    return NOTHING;
                }
            }
            int orders = 1;
            for (int k = 2; anyOrder && k <= n; k++) {
                orders *= k;
            }
            int fewest = n;
            for (int order = 0; order < orders; order++) {
                fewest = Math.min(fewest, pagesInOrder(n, order));
            }
            return fewest;
        }

        /** Orders have numbers; number 0 is the row as it was told. */
        private int pagesInOrder(int n, int order) {
            right = 0;
            stripTop = 0;
            stripHigh = 0;
            pageCount = 1;
            int left = (1 << n) - 1;
            int rest = order;
            for (int k = n; k >= 1; k--) {
                int next = bitOf(left, rest % k);
                rest /= k;
                left &= ~(1 << next);
                pasteNext(next);
            }
            return pageCount;
        }

        /** The place of the bit that has so many bits below it. */
        private static int bitOf(int bits, int below) {
            int passed = 0;
            for (int i = 0; i < MOST_PASTED; i++) {
                if ((bits >> i & 1) == 1) {
                    if (passed == below) {
                        return i;
                    }
                    passed++;
                }
            }
            return 0;
        }

        private void pasteNext(int i) {
            if (i < 0 || i >= MOST_FRAMES) {
                return;
            }
            if (right + wides[i] <= PRINT_WIDE && stripTop + highs[i] <= PRINT_HIGH) {
                right += wides[i];
                stripHigh = Math.max(stripHigh, highs[i]);
                return;
            }
            if (stripTop + stripHigh + highs[i] <= PRINT_HIGH) {
                stripTop += stripHigh;
            } else {
                pageCount++;
                stripTop = 0;
            }
            right = wides[i];
            stripHigh = highs[i];
        }

        /** Which ones as bits, or what is told instead. */
        int fitOffcuts(int n, int length) {
            for (int i = 0; i < n; i++) {
                int offcut = tape.byteAt(i);
                if (offcut < 1 || offcut > MOST_OFFCUT) {
                    return UNFIT;
                }
            }
            int best = NOTHING;
            for (int some = 1; some < 1 << n; some++) {
                boolean fewer = best == NOTHING || Integer.bitCount(some) < Integer.bitCount(best);
                if (fewer && lengthOf(some, n) == length) {
                    best = some;
                }
            }
            return best;
        }

        private int lengthOf(int some, int n) {
            int sum = 0;
            for (int i = 0; i < n; i++) {
                if ((some >> i & 1) == 1) {
                    sum += tape.byteAt(i);
                }
            }
            return sum;
        }

        int creases(int n) {
            int bits = 0;
            int many = 0;
            for (int i = 0; i < n && i < MOST_FOLDS; i++) {
                int back = 0;
                for (int j = 0; j < many; j++) {
                    int changed = 1 - (bits >> (many - 1 - j) & 1);
                    back |= changed << j;
                }
                bits |= 1 << many | back << (many + 1);
                many = 2 * many + 1;
            }
            return bits;
        }

        int guess(int n, int m, int persons, int what) {
            for (int i = 2 * n; i < 2 * n + 2 * m; i++) {
                if (!isPerson(tape.byteAt(i))) {
                    return UNFIT;
                }
            }
            int could = persons;
            for (int i = 0; i < n; i++) {
                could &= ~(tape.byteAt(2 * i) << 8 | tape.byteAt(2 * i + 1));
            }
            if (what == 0) {
                return could;
            }
            int fewest = fewestExplaining(2 * n, m, could);
            return what == 1 && fewest != NOTHING ? Integer.bitCount(fewest) : fewest;
        }

        private int fewestExplaining(int start, int m, int could) {
            int best = NOTHING;
            // the fewest are one of each two: so all choices of one of each are gone through
            for (int choice = 0; choice < 1 << m; choice++) {
                int chosen = 0;
                for (int i = 0; i < m; i++) {
                    chosen |= 1 << tape.byteAt(start + 2 * i + (choice >> i & 1));
                }
                if ((chosen & ~could) == 0 && (best == NOTHING || isFewer(chosen, best))) {
                    best = chosen;
                }
            }
            return best;
        }

        private static boolean isFewer(int some, int others) {
            int more = Integer.bitCount(some) - Integer.bitCount(others);
            return more < 0 || more == 0 && some < others;
        }

        int nest(int n, boolean turned) {
            readSizes(n);
            for (int i = 0; i < n && i < MOST_FRAMES; i++) {
                if (wides[i] < 1 || highs[i] < 1) {
                    return NOTHING;
                }
                chains[i] = 1;
            }
            int most = 1;
            // a chain grows by one a round at least
            for (int round = 0; round < n; round++) {
                most = Math.max(most, lengthenChains(n, turned));
            }
            return most;
        }

        private int lengthenChains(int n, boolean turned) {
            int most = 1;
            for (int i = 0; i < n && i < MOST_FRAMES; i++) {
                for (int j = 0; j < n && j < MOST_FRAMES; j++) {
                    if (goesInto(j, i, turned)) {
                        chains[i] = Math.max(chains[i], chains[j] + 1);
                    }
                }
                most = Math.max(most, chains[i]);
            }
            return most;
        }

        private boolean goesInto(int small, int large, boolean turned) {
            if (small < 0 || small >= MOST_FRAMES || large < 0 || large >= MOST_FRAMES) {
                return false;
            }
            boolean straight = wides[small] < wides[large] && highs[small] < highs[large];
            return straight || turned && highs[small] < wides[large] && wides[small] < highs[large];
        }
    }
}
