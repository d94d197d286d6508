/** Promises 18, 19, 29 and 35: fact, fits, range, within. */
public final class LogTest {
    private static final int MAX = Integer.MAX_VALUE;
    private static final int MIN = Integer.MIN_VALUE;

    private LogTest() {
    }

    public static void main(String[] args) {
        facts();
        fitting();
        sure();
        emptyLog();
        noneFits();
        noneSuch();
        Check.close("LogTest");
    }

    private static TwoQuarries at(String log) {
        TwoQuarries x = new TwoQuarries();
        Check.told(x, Check.LOG, -1, log, 0);
        return x;
    }

    private static void facts() {
        TwoQuarries x = at("heard 7 5 9;heard 3 2 0;");
        Check.due("how many facts", x.fact(0, -1, 0), 2);
        Check.due("fact 0, cell", x.fact(0, 0, 0), 47);
        Check.due("fact 0, how much", x.fact(0, 0, 1), 9);
        Check.due("fact 1, cell", x.fact(0, 1, 0), 19);
        Check.due("fact 1, how much", x.fact(0, 1, 1), 0);
        Check.due("fact 2", x.fact(0, 2, 0), -2);
        Check.due("fact -2", x.fact(0, -2, 0), -2);
        Check.due("fact most", x.fact(0, MAX, 0), -2);
        for (int wrong : new int[] {-1, 2, MAX, MIN}) {
            Check.due("fact, what " + wrong, x.fact(0, 0, wrong), -2);
            Check.due("how many facts, what " + wrong, x.fact(0, -1, wrong), -2);
        }
        Check.due("how many facts, what 1", x.fact(0, -1, 1), -2);
    }

    /** In the corner 8 are heard: there by 8, or one step off by 9. */
    private static void fitting() {
        TwoQuarries x = at("heard 7 5 8;");
        int[] fits = {3, -1, -1, 3};
        for (int what = 0; what < 4; what++) {
            Check.due("fits(0, " + what + ")", x.fits(0, what), fits[what]);
        }
        Check.due("fit 0", x.fits(0, 10), 359);
        Check.due("fit 1", x.fits(0, 11), 422);
        Check.due("fit 2", x.fits(0, 12), 430);
        for (int wrong : new int[] {-1, 4, 9, 13, MAX, MIN}) {
            Check.due("fits(0, " + wrong + ")", x.fits(0, wrong), -2);
        }
        Check.due("range there, least", x.range(0, 47, false), 8);
        Check.due("range there, most", x.range(0, 47, true), 8);
        Check.due("range beside, least", x.range(0, 46, false), 7);
        Check.due("range beside, most", x.range(0, 46, true), 9);
        Check.due("range far off, least", x.range(0, 0, false), 0);
        Check.due("range at 3, most", x.range(0, 3, true), 1);
        int[] within = {1, 3, 3};
        for (int n = 0; n < 3; n++) {
            Check.due("within(0, 47, " + n + ")", x.within(0, 47, n), within[n]);
        }
        Check.due("within 10 of 0", x.within(0, 0, 10), 0);
        Check.due("within 11 of 0", x.within(0, 0, 11), 2);
        Check.due("within 12 of 0", x.within(0, 0, 12), 3);
    }

    private static void sure() {
        TwoQuarries x = at("heard 0 0 9;");
        Check.due("one fits", x.fits(0, 0), 1);
        Check.due("sure of the cell", x.fits(0, 1), 0);
        Check.due("sure of the strength", x.fits(0, 2), 9);
        Check.due("ask, all alike", x.fits(0, 3), 0);
        // one step from both cells: strength 9 is sure, the cell is not
        TwoQuarries y = at("heard 0 0 8;heard 1 1 8;");
        Check.due("two fit", y.fits(0, 0), 2);
        Check.due("not sure of the cell", y.fits(0, 1), -1);
        Check.due("sure of the strength alone", y.fits(0, 2), 9);
        Check.due("fit 0", y.fits(0, 10), 9 * 1 + 8);
        Check.due("fit 1", y.fits(0, 11), 9 * 8 + 8);
        // one less on all four sides: he is in the middle
        TwoQuarries z = at("heard 3 3 4;heard 4 3 3;heard 2 3 3;heard 3 2 3;heard 3 4 3;");
        Check.due("sure in the middle", z.fits(0, 1), 27);
        Check.due("its strength", z.fits(0, 2), 4);
    }

    private static void emptyLog() {
        TwoQuarries x = at("");
        Check.due("no facts", x.fact(0, -1, 0), 0);
        Check.due("all fit", x.fits(0, 0), 432);
        Check.due("not sure of the cell", x.fits(0, 1), -1);
        Check.due("not sure of the strength", x.fits(0, 2), -1);
        Check.due("fit 0", x.fits(0, 10), 0);
        Check.due("fit 431", x.fits(0, 441), 431);
        Check.due("fit 432", x.fits(0, 442), -2);
        Check.due("range, least", x.range(0, 20, false), 0);
        Check.due("range, most", x.range(0, 20, true), 9);
        Check.due("within 0", x.within(0, 0, 0), 9);
        Check.due("within 1", x.within(0, 0, 1), 27);
        Check.due("within 12", x.within(0, 0, 12), 432);
    }

    private static void noneFits() {
        TwoQuarries x = at("heard 0 0 9;heard 0 0 8;");
        int[] fits = {0, -1, -1, -1};
        for (int what = 0; what < 4; what++) {
            Check.due("none fits, " + what, x.fits(0, what), fits[what]);
        }
        Check.due("none fits, fit 0", x.fits(0, 10), -2);
        Check.due("none fits, range", x.range(0, 0, false), -1);
        Check.due("none fits, range's most", x.range(0, 0, true), -1);
        Check.due("none fits, within", x.within(0, 0, 12), 0);
    }

    private static void noneSuch() {
        TwoQuarries x = at("heard 0 0 9;");
        for (int wrong : new int[] {-1, 1, 2, MAX, MIN}) {
            Check.due("fact of no log", x.fact(wrong, -1, 0), -2);
            Check.due("fits of no log", x.fits(wrong, 0), -2);
            Check.due("range of no log", x.range(wrong, 0, false), -1);
            Check.due("within of no log", x.within(wrong, 0, 0), -1);
        }
        for (int wrong : new int[] {-1, 48, MAX, MIN}) {
            Check.due("range of no cell", x.range(0, wrong, true), -1);
            Check.due("within of no cell", x.within(0, wrong, 0), -1);
        }
        Check.due("within 13", x.within(0, 0, 13), -1);
        Check.due("within -1", x.within(0, 0, -1), -1);
    }
}
