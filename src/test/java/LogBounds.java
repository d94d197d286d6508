import java.util.Arrays;

/** The edges of promises 18, 19, 29 and 35: fact, fits, range, within. */
final class LogBounds {
    private static final int MAX = HillBounds.MAX;
    private static final int MIN = HillBounds.MIN;
    private static final int ALL = 48 * 9;
    private static final String[] LOGS = {
        "", "heard 0 0 9;", "heard 7 5 8;", "heard 7 0 1;", "heard 0 5 0;", "heard 3 2 5;", "heard 3 2 0;",
        "heard 0 0 8;heard 1 1 8;", "heard 0 0 9;heard 0 0 8;", "heard 0 0 9;heard 7 5 1;", "heard 0 0 1;heard 7 5 1;",
        "heard 3 3 4;heard 4 3 3;heard 2 3 3;heard 3 2 3;heard 3 4 3;", "heard 2 2 3;heard 2 2 3;",
        "heard 0 0 0;heard 7 0 0;heard 0 5 0;heard 7 5 0;heard 3 2 0;heard 4 3 0;heard 3 3 0;heard 4 2 0;"};

    private LogBounds() {
    }

    static void tryAll() {
        heard();
        fitting();
        sure();
        ask();
        range();
        within();
        factAsked();
        factRefused();
        fitsAsked();
        fitsRefused();
        rangeAsked();
        withinAsked();
    }

    private static TwoQuarries at(String log) {
        TwoQuarries x = new TwoQuarries();
        Check.told(x, Check.LOG, -1, log, 0);
        return x;
    }

    private static int steps(int from, int to) {
        return Math.abs(from % 8 - to % 8) + Math.abs(from / 8 - to / 8);
    }

    /** How much is heard at a cell of a striker: 9 times his cell, and his strength less 1. */
    private static int heardOf(int striker, int cell) {
        return Math.max(0, striker % 9 + 1 - steps(striker / 9, cell));
    }

    private static int[] thatFit(TwoQuarries x) {
        int[] found = new int[ALL];
        int many = 0;
        int facts = x.fact(0, -1, 0);
        for (int striker = 0; striker < ALL; striker++) {
            boolean fits = true;
            for (int k = 0; k < facts; k++) {
                fits &= heardOf(striker, x.fact(0, k, 0)) == x.fact(0, k, 1);
            }
            if (fits) {
                found[many++] = striker;
            }
        }
        return Arrays.copyOf(found, many);
    }

    private static void heard() {
        Document.says("Term 4", "By a LOG: a STRIKER is in a CELL, his STRENGTH is 1 .. 9: what is HEARD at a CELL is"
                + " that less the steps from there to him (by columns and rows), 0 at least.");
        // how many cells are near enough for it; 0 is heard of all others, too
        int[] corner = {278, 38, 33, 27, 21, 15, 10, 6, 3, 1};
        int[] middle = {168, 48, 48, 47, 43, 35, 24, 13, 5, 1};
        for (int much = 0; much < 10; much++) {
            for (String cell : new String[] {"0 0", "7 0", "0 5", "7 5"}) {
                Check.due(much + " heard in a corner", at("heard " + cell + " " + much + ";").fits(0, 0), corner[much]);
            }
            Check.due(much + " heard in the middle", at("heard 3 3 " + much + ";").fits(0, 0), middle[much]);
        }
        // he of 1 is heard in his own cell alone, he of 9 eight steps off, and not nine
        TwoQuarries own = at("heard 4 2 1;heard 5 2 0;heard 3 2 0;heard 4 1 0;heard 4 3 0;");
        Check.due("strength 1 at his own cell", own.fits(0, 10), 9 * 20);
        Check.due("strength 1 there alone", own.fits(0, 0), 1);
        Check.due("strength 9 at eight steps", at("heard 0 0 9;heard 5 3 1;").fits(0, 0), 1);
        Check.due("strength 9 at nine steps", at("heard 0 0 9;heard 5 4 0;").fits(0, 0), 1);
        Check.due("no strength 10", at("heard 0 0 9;heard 5 4 1;").fits(0, 0), 0);
    }

    private static void fitting() {
        Document.says("Term 4", "CELLS and STRENGTHS (9 times the CELL, and STRENGTH less 1) FIT, if all FACTS are"
                + " so: how many; the k-th, by numbers;");
        for (String log : LOGS) {
            TwoQuarries x = at(log);
            int[] due = thatFit(x);
            x = at(log);
            Check.due("how many fit '" + log + "'", x.fits(0, 0), due.length);
            for (int k = 0; k < due.length; k++) {
                Check.due("fit " + k + " of '" + log + "'", x.fits(0, 10 + k), due[k]);
            }
            Check.due("no further fit of '" + log + "'", x.fits(0, 10 + due.length), -2);
        }
    }

    private static void sure() {
        Document.says("Term 4", "SURE of the CELL, of the STRENGTH: it, if it is one in all.");
        for (int striker = 0; striker < ALL; striker++) {
            // one step less on all sides of his own cell
            int column = striker / 9 % 8;
            int row = striker / 9 / 8;
            StringBuilder log = new StringBuilder();
            for (int[] off : new int[][] {{0, 0}, {1, 0}, {0, 1}, {-1, 0}, {0, -1}}) {
                int c = column + off[0];
                int r = row + off[1];
                if (c >= 0 && c < 8 && r >= 0 && r < 6) {
                    String cell = "heard " + c + " " + r + " ";
                    log.append(cell).append(heardOf(striker, 8 * r + c)).append(';');
                }
            }
            TwoQuarries x = at(log.toString());
            Check.due("one fits '" + log + "'", x.fits(0, 0), 1);
            Check.due("its cell, '" + log + "'", x.fits(0, 1), striker / 9);
            Check.due("its strength, '" + log + "'", x.fits(0, 2), striker % 9 + 1);
        }
        // of one strength, in two cells; of several, in several; none
        TwoQuarries two = at("heard 0 0 8;heard 1 1 8;");
        Check.due("not one cell", two.fits(0, 1), -1);
        Check.due("one strength", two.fits(0, 2), 9);
        TwoQuarries several = at("heard 7 5 8;");
        Check.due("not one cell of several", several.fits(0, 1), -1);
        Check.due("not one strength", several.fits(0, 2), -1);
        TwoQuarries none = at("heard 0 0 9;heard 0 0 8;");
        Check.due("no cell", none.fits(0, 1), -1);
        Check.due("no strength", none.fits(0, 2), -1);
    }

    private static void ask() {
        Document.says("Term 4", "ASK: the CELL at which of those that FIT the greatest number by which one and the"
                + " same is HEARD is least, of several the least.");
        for (String log : LOGS) {
            int[] fits = thatFit(at(log));
            int best = -1;
            int least = fits.length + 1;
            for (int cell = 0; cell < 48 && fits.length > 0; cell++) {
                int[] times = new int[10];
                int most = 0;
                for (int striker : fits) {
                    most = Math.max(most, ++times[heardOf(striker, cell)]);
                }
                if (most < least) {
                    least = most;
                    best = cell;
                }
            }
            Check.due("ask of '" + log + "'", at(log).fits(0, 3), best);
        }
        // one alone is heard alike everywhere; two of 9 beside a corner are heard alike there, and not beside it
        Check.due("ask of one", at("heard 0 0 9;").fits(0, 3), 0);
        Check.due("ask of two", at("heard 0 0 8;heard 1 1 8;").fits(0, 3), 1);
        Check.due("ask of none", at("heard 0 0 9;heard 0 0 8;").fits(0, 3), -1);
    }

    private static void range() {
        Document.says("Term 5", "By a LOG: RANGE of a CELL, 0 .. 47: the least, the most that is HEARD there by any"
                + " that FITS.");
        for (String log : LOGS) {
            int[] fits = thatFit(at(log));
            TwoQuarries x = at(log);
            for (int call = 0; call < 96; call++) {
                boolean asksMost = call < 48;
                int cell = call % 48;
                int due = fits.length == 0 ? -1 : heardOf(fits[0], cell);
                for (int striker : fits) {
                    int much = heardOf(striker, cell);
                    due = asksMost ? Math.max(due, much) : Math.min(due, much);
                }
                String name = (asksMost ? "most at " : "least at ") + cell + " by '" + log + "'";
                Check.due(name, x.range(0, cell, asksMost), due);
            }
        }
    }

    private static void within() {
        Document.says("Term 6", "By a LOG: WITHIN of a CELL, n, 0 .. 12: how many of those that FIT are n steps or"
                + " less from it.");
        for (String log : LOGS) {
            int[] fits = thatFit(at(log));
            for (int n = 0; n <= 12; n++) {
                TwoQuarries x = at(log);
                for (int cell = 0; cell < 48; cell++) {
                    int due = 0;
                    for (int striker : fits) {
                        due += steps(striker / 9, cell) <= n ? 1 : 0;
                    }
                    Check.due("within " + n + " of " + cell + " by '" + log + "'", x.within(0, cell, n), due);
                }
            }
        }
        TwoQuarries corner = at("heard 7 5 9;");
        Check.due("eleven steps off", corner.within(0, 0, 11), 0);
        Check.due("twelve steps off", corner.within(0, 0, 12), 1);
        Check.due("no step off", corner.within(0, 47, 0), 1);
    }

    private static void factAsked() {
        Document.says("Promise 18", "How many FACTS (k NONE, what 0); of FACT k, what 0: the CELL (8 times the row,"
                + " and the column), 1: how much.");
        TwoQuarries x = at("heard 0 0 0;heard 7 0 9;heard 0 5 1;heard 7 5 8;heard 3 2 5;");
        Check.told(x, Check.LOG, -1, "", 1);
        int[][] due = {{0, 0}, {7, 9}, {40, 1}, {47, 8}, {19, 5}};
        Check.due("how many facts", x.fact(0, -1, 0), 5);
        Check.due("no facts", x.fact(1, -1, 0), 0);
        for (int k = 0; k < due.length; k++) {
            for (int what = 0; what < 2; what++) {
                Check.due("fact " + k + ", " + what, x.fact(0, k, what), due[k][what]);
                Check.due("fact " + k + " of none, " + what, x.fact(1, k, what), -2);
            }
        }
    }

    private static void factRefused() {
        Document.says("Promise 18", "-2: there is none such (of either), or for another what.");
        TwoQuarries x = at("heard 1 1 1;heard 2 2 2;");
        for (int what : new int[] {MIN, -2, -1, 2, 3, 100, MAX}) {
            Check.due("how many facts, " + what, x.fact(0, -1, what), -2);
            Check.due("fact 0, " + what, x.fact(0, 0, what), -2);
        }
        Check.due("how many facts, 1", x.fact(0, -1, 1), -2);
        for (int what = 0; what < 2; what++) {
            for (int k : new int[] {MIN, -3, -2, 2, 3, 7, 8, MAX}) {
                Check.due("fact " + k + ", " + what, x.fact(0, k, what), -2);
            }
            for (int log : HillBounds.NO_HILL) {
                Check.due("fact 0 of log " + log, x.fact(log, 0, what), -2);
                Check.due("how many facts of log " + log, x.fact(log, -1, what), -2);
            }
        }
    }

    private static void fitsAsked() {
        Document.says("Promise 19", "What 0: how many FIT, 1, 2: SURE of the CELL, the STRENGTH (NONE: not one), 3:"
                + " ASK (NONE: nothing FITS), 10 + k: the k-th.");
        String[] logs = {"heard 0 0 9;", "heard 7 5 8;", "heard 0 0 9;heard 0 0 8;", "", "heard 0 0 8;heard 1 1 8;"};
        int[][] due = {{1, 0, 9, 0}, {3, -1, -1, 3}, {0, -1, -1, -1}, {432, -1, -1, 0}, {2, -1, 9, 1}};
        for (int i = 0; i < logs.length; i++) {
            TwoQuarries x = at(logs[i]);
            for (int what = 0; what < 4; what++) {
                if (i != 3 || what != 3) {
                    Check.due("fits of '" + logs[i] + "', " + what, x.fits(0, what), due[i][what]);
                }
            }
        }
        TwoQuarries all = at("");
        Check.told(all, Check.LOG, -1, "heard 7 5 8;", 1);
        Check.due("fit 0 of all", all.fits(0, 10), 0);
        Check.due("fit 431 of all", all.fits(0, 441), 431);
        int[] three = {9 * 39 + 8, 9 * 46 + 8, 9 * 47 + 7};
        for (int k = 0; k < 3; k++) {
            Check.due("fit " + k + " of log 1", all.fits(1, 10 + k), three[k]);
        }
        Check.due("all of log 0 once more", all.fits(0, 0), 432);
    }

    private static void fitsRefused() {
        Document.says("Promise 19", "-2: there is none such (of either), or for another what.");
        TwoQuarries x = at("heard 7 5 8;");
        for (int what : new int[] {MIN, -11, -10, -2, -1, 4, 5, 8, 9, 13, 14, 441, 442, MAX}) {
            Check.due("fits, " + what, x.fits(0, what), -2);
        }
        TwoQuarries all = at("");
        Check.due("fit 432 of all", all.fits(0, 442), -2);
        TwoQuarries none = at("heard 0 0 9;heard 0 0 8;");
        Check.due("fit 0 of none", none.fits(0, 10), -2);
        for (int log : HillBounds.NO_HILL) {
            for (int what : new int[] {0, 1, 2, 3, 10}) {
                Check.due("fits of log " + log + ", " + what, x.fits(log, what), -2);
            }
        }
    }

    private static void rangeAsked() {
        Document.says("Promise 29", "RANGE of a CELL: the least, or (most) the most. NONE: nothing FITS, or there is"
                + " none such (of either).");
        TwoQuarries x = at("heard 7 5 8;");
        Check.told(x, Check.LOG, -1, "heard 0 0 9;heard 0 0 8;", 1);
        Check.due("least", x.range(0, 46, false), 7);
        Check.due("most", x.range(0, 46, true), 9);
        for (boolean most : new boolean[] {false, true}) {
            for (int cell = 0; cell < 48; cell += 47) {
                Check.due("nothing fits", x.range(1, cell, most), -1);
            }
            for (int cell : new int[] {MIN, -2, -1, 48, 49, MAX}) {
                Check.due("range of cell " + cell, x.range(0, cell, most), -1);
            }
            for (int log : new int[] {MIN, -2, -1, 2, 3, MAX}) {
                Check.due("range of log " + log, x.range(log, 0, most), -1);
            }
        }
    }

    private static void withinAsked() {
        Document.says("Promise 35", "WITHIN of a CELL, n. NONE: other numbers, or there is none such.");
        TwoQuarries x = at("heard 7 5 8;");
        Check.told(x, Check.LOG, -1, "heard 0 0 9;heard 0 0 8;", 1);
        Check.due("within 1", x.within(0, 47, 1), 3);
        Check.due("nothing fits: none is within", x.within(1, 0, 12), 0);
        for (int n : new int[] {MIN, -2, -1, 13, 14, MAX}) {
            Check.due("within " + n, x.within(0, 47, n), -1);
        }
        for (int n = 0; n <= 12; n++) {
            for (int cell : new int[] {MIN, -2, -1, 48, 49, MAX}) {
                Check.due("within of cell " + cell, x.within(0, cell, n), -1);
            }
            for (int log : new int[] {MIN, -2, -1, 2, 3, MAX}) {
                Check.due("within of log " + log, x.within(log, 0, n), -1);
            }
        }
    }
}
