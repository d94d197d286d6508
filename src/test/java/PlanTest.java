/** Promises 13, 14, 26 and 27: rich, duel, steady, race. */
public final class PlanTest {
    private PlanTest() {
    }

    public static void main(String[] args) {
        richRows();
        duels();
        steadyAndRace();
        nothingToCut();
        wrongNumbers();
        Check.close("PlanTest");
    }

    private static TwoQuarries stalls() {
        return Check.drawn(".....", "c.p.m", "c.c.g");
    }

    private static void rich(TwoQuarries x, int side, int n, int worth, int... cells) {
        String call = "rich of side " + side + ", " + n;
        Check.due(call, x.rich(0, side, n, -1), worth);
        Check.due(call + ", how many", x.rich(0, side, n, -2), cells.length);
        for (int k = 0; k < cells.length; k++) {
            Check.due(call + ", cell " + k, x.rich(0, side, n, k), cells[k]);
        }
        Check.due(call + ", one more", x.rich(0, side, n, cells.length), -1);
        Check.due(call + ", -3", x.rich(0, side, n, -3), -1);
        Check.due(call + ", most", x.rich(0, side, n, Integer.MAX_VALUE), -1);
    }

    private static void richRows() {
        TwoQuarries x = stalls();
        for (int side = 0; side < 2; side++) {
            rich(x, side, 0, 0);
            rich(x, side, 1, 4, 9);
            rich(x, side, 2, 6, 9, 14);
            rich(x, side, 3, 7, 5, 9, 14);
        }
        TwoQuarries shared = Check.drawn("gccm", "c.mc");
        rich(shared, 0, 3, 0);
        rich(shared, 1, 1, 4, 3);
        rich(shared, 1, 2, 5, 3, 7);
        // the marble lies open only behind a cut of chalk
        TwoQuarries hidden = Check.drawn("cmg", "ppp");
        rich(hidden, 0, 1, 1, 0);
        rich(hidden, 0, 2, 5, 0, 1);
        rich(hidden, 1, 2, 6, 2, 1);
        rich(hidden, 1, 3, 7, 2, 1, 0);
        TwoQuarries few = Check.drawn("c.", "pp");
        rich(few, 0, 3, 1, 0);
    }

    private static void duel(TwoQuarries x, int n, int lead, int first) {
        Check.due("duel of " + n, x.duel(0, n, false), lead);
        Check.due("duel of " + n + ", first", x.duel(0, n, true), first);
    }

    private static void duels() {
        TwoQuarries x = stalls();
        duel(x, 0, 0, -1000);
        duel(x, 1, 4, 9);
        duel(x, 2, 2, 9);
        duel(x, 3, 3, 9);
        TwoQuarries shared = Check.drawn("gccm", "c.mc");
        duel(shared, 1, 2, 0);
        Check.due("duel of 2 below 0", shared.duel(0, 2, false), -2);
        TwoQuarries even = Check.drawn("cc", "cc");
        duel(even, 1, 1, 0);
        duel(even, 2, 0, 0);
        duel(even, 3, 1, 0);
        opened();
    }

    /** North's only cut, the chalk, would open the marble to south, who comes by the air above. */
    private static void opened() {
        TwoQuarries x = Check.drawn("...", ".pp", "cmp");
        duel(x, 1, 1, 6);
        duel(x, 2, -1, 9);
        duel(x, 3, 1, 9);
        TwoQuarries y = Check.drawn("c...", "pppp");
        duel(y, 1, 1, 0);
        duel(y, 2, 1, 0);
    }

    private static void steadyAndRace() {
        TwoQuarries x = stalls();
        for (int side = 0; side < 2; side++) {
            Check.due("steady of side " + side, x.steady(0, side, false), 4);
            Check.due("steady worth of side " + side, x.steady(0, side, true), 8);
        }
        int[][] race = {{0, 0, 0}, {4, 0, 0}, {4, 2, 0}, {5, 2, 0}, {5, 3, 0}, {5, 3, 0}};
        for (int n = 0; n < race.length; n++) {
            for (int what = 0; what < 3; what++) {
                Check.due("race of " + n + ", " + what, x.race(0, n, what), race[n][what]);
            }
        }
        Check.due("race of 40", x.race(0, 40, 0), 5);
        TwoQuarries chalk = Check.drawn("cccccc", "cccccc", "cccccc", "cccccc");
        Check.due("steady of all chalk", chalk.steady(0, 0, false), 24);
        Check.due("steady worth of all chalk", chalk.steady(0, 1, true), 24);
        Check.due("race of 2, thick", chalk.race(0, 2, 2), 4);
        Check.due("race of 40, north", chalk.race(0, 40, 0), 12);
        Check.due("race of 40, south", chalk.race(0, 40, 1), 12);
        TwoQuarries wall = Check.drawn("cpc", "gpm");
        Check.due("race at a wall, thick", wall.race(0, 40, 2), -1);
        Check.due("race at a wall, north", wall.race(0, 4, 0), 3);
        Check.due("race at a wall, south", wall.race(0, 4, 1), 5);
        Check.due("race at a wall of 3, south", wall.race(0, 3, 1), 1);
        Check.due("steady at a wall", wall.steady(0, 1, true), 5);
    }

    private static void nothingToCut() {
        TwoQuarries x = Check.drawn("..", "pp");
        rich(x, 0, 3, 0);
        duel(x, 1, 0, 4);
        duel(x, 3, 0, 4);
        Check.due("steady of nothing", x.steady(0, 0, false), 0);
        Check.due("race of nothing", x.race(0, 40, 1), 0);
    }

    private static void wrongNumbers() {
        TwoQuarries x = stalls();
        for (int wrong : new int[] {-1, 1, Integer.MAX_VALUE, Integer.MIN_VALUE}) {
            Check.due("rich of no hill", x.rich(wrong, 0, 1, -1), -1);
            Check.due("duel of no hill", x.duel(wrong, 1, false), -1000);
            Check.due("steady of no hill", x.steady(wrong, 0, false), -1);
            Check.due("race of no hill", x.race(wrong, 1, 0), -2);
        }
        for (int wrong : new int[] {-1, 2, 5, Integer.MAX_VALUE}) {
            Check.due("rich of side " + wrong, x.rich(0, wrong, 1, -1), -1);
            Check.due("steady of side " + wrong, x.steady(0, wrong, true), -1);
        }
        for (int wrong : new int[] {-1, 4, Integer.MAX_VALUE, Integer.MIN_VALUE}) {
            Check.due("rich of n " + wrong, x.rich(0, 0, wrong, -1), -1);
            Check.due("duel of n " + wrong, x.duel(0, wrong, false), -1000);
            Check.due("race, what " + wrong, x.race(0, 1, wrong), -2);
        }
        Check.due("race of 41", x.race(0, 41, 0), -2);
        Check.due("race of -1", x.race(0, -1, 2), -2);
        Check.due("race, what 3", x.race(0, 1, 3), -2);
    }
}
