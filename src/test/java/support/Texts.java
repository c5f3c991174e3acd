import java.util.Random;

/** Makes texts of prints, edits and laws from a fixed row of numbers; some with a sign changed. */
final class Texts {
    private final Random row;

    Texts(long start) {
        row = new Random(start);
    }

    int below(int n) {
        return row.nextInt(n);
    }

    boolean onceIn(int n) {
        return row.nextInt(n) == 0;
    }

    int any() {
        switch (row.nextInt(6)) {
            case 0:
                return row.nextInt();
            case 1:
                return -row.nextInt(5);
            case 2:
                return row.nextBoolean() ? Integer.MAX_VALUE : Integer.MIN_VALUE;
            case 3:
                return 65530 + row.nextInt(10);
            default:
                return row.nextInt(20);
        }
    }

    String print() {
        int persons = 1 + row.nextInt(onceIn(3) ? 16 : 5);
        int size = 1 + row.nextInt(onceIn(3) ? 12 : 4);
        StringBuilder text = new StringBuilder();
        int lines = 1 + row.nextInt(onceIn(20) ? 14 : 12);
        for (int i = 0; i < lines; i++) {
            int x = row.nextInt(16);
            int y = row.nextInt(12);
            int w = 1 + row.nextInt(Math.min(size, 16 - x));
            int h = 1 + row.nextInt(Math.min(size, 12 - y));
            text.append(i == 0 ? "" : ";").append((char) ('a' + row.nextInt(persons)));
            text.append(number(x)).append(',').append(number(y)).append(':');
            text.append(number(w)).append('x').append(number(h));
        }
        return spoilt(text, "abp;,:x0123456789q", 8);
    }

    private String number(int value) {
        return value < 10 && onceIn(6) ? "0" + value : "" + value;
    }

    String edits() {
        StringBuilder text = new StringBuilder();
        int lines = 1 + row.nextInt(onceIn(15) ? 22 : 5);
        for (int i = 0; i < lines; i++) {
            text.append(i == 0 ? "" : ";");
            if (row.nextBoolean()) {
                text.append('#').append(number(row.nextInt(onceIn(10) ? 14 : 4))).append(oneOf("<<<>>>^^^___!"));
            } else {
                text.append((char) ('a' + row.nextInt(16))).append(oneOf("++-")).append(number(row.nextInt(100)));
            }
        }
        return spoilt(text, "ap#<>^_!+-;0123456789q", 8);
    }

    String law() {
        StringBuilder text = new StringBuilder();
        int rules = 1 + row.nextInt(onceIn(8) ? 18 : 5);
        for (int i = 0; i < rules; i++) {
            char kind = oneOf("wwwlhhc");
            text.append(i == 0 ? "" : ";").append(kind);
            if (kind != 'c') {
                sum(text, 0);
            }
            text.append('(');
            condition(text, 1);
            text.append(')');
        }
        return spoilt(text, "wlhc()[]!&|<>=+-*/%pvnsdt0123456789;q", 6);
    }

    private void condition(StringBuilder text, int depth) {
        test(text, depth);
        while (onceIn(3)) {
            text.append(oneOf("&|"));
            test(text, depth);
        }
    }

    private void test(StringBuilder text, int depth) {
        if (onceIn(depth < 7 ? 5 : 50)) {
            text.append('!');
            test(text, depth + 1);
        } else if (onceIn(depth < 7 ? 5 : 50)) {
            text.append('(');
            condition(text, depth + 1);
            text.append(')');
        } else {
            sum(text, depth);
            text.append(oneOf("<>="));
            sum(text, depth);
        }
    }

    private void sum(StringBuilder text, int depth) {
        factor(text, depth);
        while (onceIn(3)) {
            text.append(oneOf("++--*/%"));
            factor(text, depth);
        }
    }

    private void factor(StringBuilder text, int depth) {
        if (onceIn(depth < 7 ? 8 : 50)) {
            text.append('[');
            sum(text, depth + 1);
            text.append(']');
        } else if (row.nextBoolean()) {
            text.append(oneOf("ppvvvnsdt"));
        } else {
            int[] bounds = {2, 4, 12, 100, 100000};
            text.append(row.nextInt(bounds[row.nextInt(5)]));
        }
    }

    private char oneOf(String signs) {
        return signs.charAt(row.nextInt(signs.length()));
    }

    private String spoilt(StringBuilder text, String signs, int once) {
        if (onceIn(once)) {
            int at = row.nextInt(text.length());
            switch (row.nextInt(4)) {
                case 0:
                    text.setCharAt(at, oneOf(signs));
                    break;
                case 1:
                    text.insert(at, oneOf(signs));
                    break;
                case 2:
                    text.deleteCharAt(at);
                    break;
                default:
                    text.setLength(at + 1);
                    break;
            }
        }
        return text.length() == 0 ? "?" : text.toString();
    }
}
