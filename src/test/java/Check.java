import java.nio.charset.StandardCharsets;

/** What all tests share: due answers are compared here, and texts and drawn hills are told from here. */
final class Check {
    static final int HILL = 0;
    static final int YEAR = 1;
    static final int LOG = 2;
    static final int TALK = 3;

    private static int checked = 0;
    private static int wrong = 0;

    private Check() {
    }

    static void due(String call, long got, long want) {
        checked++;
        if (got != want) {
            wrong++;
            System.out.println(call + " answered " + got + ", due is " + want);
        }
    }

    static void due(String call, boolean got, boolean want) {
        due(call, got ? 1L : 0L, want ? 1L : 0L);
    }

    static int count() {
        return checked;
    }

    /** Ends the test program: with exit code 1 if an answer was wrong. */
    static void close(String test) {
        System.out.println(test + ": " + checked + " answers, " + wrong + " wrong");
        if (wrong != 0 || checked == 0) {
            System.exit(1);
        }
    }

    /** Puts bytes behind an empty tape. */
    static void feed(TwoQuarries x, byte[] bytes) {
        int fed = 0;
        for (int at = 0; at < bytes.length; at += 20) {
            fed = x.feed(four(bytes, at), four(bytes, at + 4), four(bytes, at + 8), four(bytes, at + 12),
                    four(bytes, at + 16));
            due("feed() of twenty bytes", fed, at + 20);
        }
        due("end() of a text", x.end(bytes.length), bytes.length);
    }

    private static int four(byte[] bytes, int at) {
        int number = 0;
        for (int i = at; i < at + 4; i++) {
            number = number << 8 | (i < bytes.length ? bytes[i] & 255 : 0);
        }
        return number;
    }

    /** What is told, but for the tape, as one text: alike before and behind calls that change nothing. */
    static String allTold(TwoQuarries x) {
        StringBuilder all = new StringBuilder();
        for (int sort = 0; sort < 4; sort++) {
            all.append(x.count(sort)).append(' ');
        }
        all.append(x.fault(0)).append(' ').append(x.fault(1)).append(';');
        for (int i = 0; i < 2; i++) {
            all.append(x.hill(i, 0)).append(' ').append(x.hill(i, 1)).append(':');
            for (int c = 0; c < 48 && x.hill(i, 100 + c) >= 0; c++) {
                all.append(x.hill(i, 100 + c));
            }
            for (int k = 0; k < x.deed(i, -1, 0); k++) {
                all.append(' ').append(x.deed(i, k, 0)).append(' ').append(x.deed(i, k, 1)).append(' ').append(x.deed(i, k, 2));
            }
            for (int k = 0; k < x.fact(i, -1, 0); k++) {
                all.append(' ').append(x.fact(i, k, 0)).append(' ').append(x.fact(i, k, 1));
            }
            for (int k = 0; k < x.talk(i, -1); k++) {
                all.append(' ').append(x.talk(i, k));
            }
            all.append(';');
        }
        return all.toString();
    }

    /** All is told as it was: the calls in between have changed nothing. */
    static void unchanged(String calls, TwoQuarries x, String before) {
        due(calls + " changed nothing of " + before, before.equals(allTold(x)), true);
    }

    static int tell(TwoQuarries x, int sort, int at, String text) {
        feed(x, text.getBytes(StandardCharsets.ISO_8859_1));
        return x.text(sort, at);
    }

    /** Tells a text that must be taken as the number that is due. */
    static void told(TwoQuarries x, int sort, int at, String text, int number) {
        due("text(" + sort + ", " + at + ") of '" + text + "'", tell(x, sort, at, text), number);
        due("fault(0) of '" + text + "'", x.fault(0), 0);
        due("fault(1) of '" + text + "'", x.fault(1), -1);
    }

    /** Tells a text that must be refused. */
    static void refused(TwoQuarries x, int sort, String text, int fault, int place) {
        answered(x, sort, text, fault, place, -1);
    }

    static void answered(TwoQuarries x, int sort, String text, int fault, int place, int number) {
        due("text(" + sort + ", -1) of '" + text + "'", tell(x, sort, -1, text), number);
        due("fault(0) of '" + text + "'", x.fault(0), fault);
        due("fault(1) of '" + text + "'", x.fault(1), place);
    }

    /** A new object whose hill 0 is as drawn, row by row: . air, c chalk, m marble, g granite, p prop. */
    static TwoQuarries drawn(String... rows) {
        TwoQuarries x = new TwoQuarries();
        told(x, HILL, -1, textOf(rows), 0);
        return x;
    }

    static String textOf(String... rows) {
        StringBuilder text = new StringBuilder("size " + rows[0].length() + " " + rows.length + ";");
        for (int row = 0; row < rows.length; row++) {
            for (int column = 0; column < rows[row].length(); column++) {
                String kind = kindOf(rows[row].charAt(column));
                if (!kind.equals("chalk")) {
                    text.append(kind).append(' ').append(column).append(' ').append(row).append(';');
                }
            }
        }
        return text.toString();
    }

    private static String kindOf(char sign) {
        switch (sign) {
            case '.':
                return "air";
            case 'c':
                return "chalk";
            case 'm':
                return "marble";
            case 'g':
                return "granite";
            case 'p':
                return "prop";
            default:
                throw new IllegalArgumentException("no kind: " + sign);
        }
    }
}
