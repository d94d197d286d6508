import java.util.Arrays;

/** The edges of promises 13, 14, 26 and 27: rich, duel, steady, race. */
final class PlanBounds {
    private static final int MAX = HillBounds.MAX;
    private static final int MIN = HillBounds.MIN;
    private static final int[] OTHER_N = {MIN, -3, -2, -1, 4, 5, MAX};

    private PlanBounds() {
    }

    static void tryAll() {
        rich();
        richAsked();
        richRefused();
        duel();
        nothingFirst();
        duelRefused();
        steady();
        steadyAsked();
        race();
        longRace();
        raceAsked();
    }

    private static void rich(TwoQuarries x, String name, int side, int n, int worth, int... cells) {
        String call = name + ": rich of side " + side + ", " + n;
        Check.due(call, x.rich(0, side, n, -1), worth);
        Check.due(call + ", how many", x.rich(0, side, n, -2), cells.length);
        for (int k = 0; k < cells.length; k++) {
            Check.due(call + ", cell " + k, x.rich(0, side, n, k), cells[k]);
        }
        Check.due(call + ", not so many", x.rich(0, side, n, cells.length), -1);
    }

    private static void rich() {
        Document.says("Term 3", "RICH of a SIDE, n, 0 .. 3: one behind the other n CUTS, or fewer, by none of which"
                + " anything is LOST: most WORTH; the first such row of CELLS by numbers, of these the shortest.");
        // one behind the other: each opens the next one, whatever its number
        TwoQuarries row = Check.drawn("cmg", "ppp");
        rich(row, "a row", 0, 0, 0);
        rich(row, "a row", 0, 1, 1, 0);
        rich(row, "a row", 0, 2, 5, 0, 1);
        rich(row, "a row", 0, 3, 7, 0, 1, 2);
        rich(row, "a row", 1, 0, 0);
        rich(row, "a row", 1, 1, 2, 2);
        rich(row, "a row", 1, 2, 6, 2, 1);
        rich(row, "a row", 1, 3, 7, 2, 1, 0);
        // of as much worth the first row: not the dearest one first, but the least one
        TwoQuarries even = Check.drawn("....", "cgcm");
        for (int side = 0; side < 2; side++) {
            rich(even, "even", side, 1, 4, 7);
            rich(even, "even", side, 2, 6, 5, 7);
            rich(even, "even", side, 3, 7, 4, 5, 7);
        }
        TwoQuarries chalk = Check.drawn("........", "cccccccc");
        rich(chalk, "chalk", 1, 1, 1, 8);
        rich(chalk, "chalk", 1, 2, 2, 8, 9);
        rich(chalk, "chalk", 1, 3, 3, 8, 9, 10);
        // nothing is lost: what lies on a stone goes first, if there are cuts enough for that
        TwoQuarries stack = Check.drawn("c...", "c...", "m..g");
        rich(stack, "stack", 0, 1, 1, 0);
        rich(stack, "stack", 0, 2, 3, 0, 11);
        rich(stack, "stack", 0, 3, 6, 0, 4, 8);
        TwoQuarries prop = Check.drawn("p.", "m.");
        rich(prop, "under a prop", 0, 3, 0);
        rich(prop, "under a prop", 1, 3, 0);
        // or fewer: there are no more, or none at all
        TwoQuarries two = Check.drawn("..", "gc");
        rich(two, "two", 0, 3, 3, 2, 3);
        TwoQuarries none = Check.drawn("..", "pp");
        rich(none, "none", 1, 3, 0);
    }

    private static void richAsked() {
        Document.says("Promise 13", "RICH of a SIDE, n: the WORTH (k NONE), the k-th CELL, or (k -2) how many CUTS.");
        TwoQuarries x = Check.drawn("cmc", "ppp");
        Check.told(x, Check.HILL, -1, Check.textOf("mmm", "ppp"), 1);
        rich(x, "hill 0", 0, 2, 5, 0, 1);
        rich(x, "hill 0", 1, 2, 5, 2, 1);
        Check.due("hill 1", x.rich(1, 1, 3, -1), 12);
        Check.due("hill 1, the last", x.rich(1, 1, 3, 2), 0);
        rich(x, "hill 0 once more", 0, 1, 1, 0);
    }

    private static void richRefused() {
        Document.says("Promise 13", "NONE: not so many, another SIDE, another n, or there is none such.");
        TwoQuarries x = Check.drawn("cmg", "ppp");
        for (int k : new int[] {MIN, -4, -3, 3, 4, MAX}) {
            Check.due("rich, " + k, x.rich(0, 0, 3, k), -1);
        }
        for (int n = 0; n <= 3; n++) {
            Check.due("rich of " + n + ", " + n, x.rich(0, 0, n, n), -1);
        }
        for (int k = -2; k < 3; k++) {
            for (int n : OTHER_N) {
                Check.due("rich of " + n, x.rich(0, 0, n, k), -1);
            }
            for (int side : HillBounds.NO_SIDE) {
                Check.due("rich of side " + side, x.rich(0, side, 1, k), -1);
            }
            for (int hill : HillBounds.NO_HILL) {
                Check.due("rich of hill " + hill, x.rich(hill, 0, 1, k), -1);
            }
        }
    }

    private static void duel(TwoQuarries x, String name, int n, int lead, int first) {
        Check.due(name + ": duel of " + n, x.duel(0, n, false), lead);
        Check.due(name + ": duel of " + n + ", first", x.duel(0, n, true), first);
    }

    private static void duel() {
        Document.says("Term 3", "DUEL of n, 0 .. 3: by turns, NORTH first, n times in all, each cuts a STONE that he"
                + " can CUT, or nothing: by how much NORTH has more WORTH than SOUTH in the end, if both do as best"
                + " they can for that (below 0, if less);");
        TwoQuarries even = Check.drawn("cc", "cc");
        duel(even, "even", 0, 0, -1000);
        duel(even, "even", 1, 1, 0);
        duel(even, "even", 2, 0, 0);
        duel(even, "even", 3, 1, 0);
        Check.due("even: duel of 0 once more", even.duel(0, 0, false), 0);
        // if north left the first cell to south, south would take it
        TwoQuarries first = Check.drawn("m.", "gp");
        duel(first, "first cell", 1, 4, 0);
        duel(first, "first cell", 2, 2, 0);
        duel(first, "first cell", 3, 2, 0);
        // below 0, for south has more at hand
        TwoQuarries less = Check.drawn("cpm", "ppm");
        duel(less, "less", 1, 1, 0);
        duel(less, "less", 2, -3, 0);
        duel(less, "less", 3, -3, 0);
        // a cut by which something is lost may be best: what is lost is nobody's
        TwoQuarries deep = Check.drawn("c.", "m.");
        duel(deep, "deep", 1, 4, 2);
        duel(deep, "deep", 2, 4, 2);
        // the first cut opens the marble for the third
        TwoQuarries opened = Check.drawn("cmp", "ppp");
        duel(opened, "opened", 1, 1, 0);
        duel(opened, "opened", 2, 1, 0);
        duel(opened, "opened", 3, 5, 0);
    }

    private static void nothingFirst() {
        Document.says("Term 3", "what NORTH cuts first, the least CELL (WIDE times HIGH: nothing).");
        TwoQuarries none = Check.drawn("..", "pp");
        TwoQuarries largest = Check.drawn("........", "........", "........", "........", "........", "........");
        for (int n = 1; n <= 3; n++) {
            duel(none, "nothing to cut", n, 0, 4);
            duel(largest, "nothing but air", n, 0, 48);
        }
        TwoQuarries south = Check.drawn("ppm", "ppp");
        duel(south, "nothing for north", 1, 0, 6);
        duel(south, "nothing for north", 2, -4, 6);
        duel(south, "nothing for north", 3, -4, 6);
        // north's chalk, or its being left to south, is as bad as the granite that it would open; a marble is worse
        TwoQuarries granite = Check.drawn("...", ".pp", "cgp");
        duel(granite, "a cut is less than nothing by number", 2, -1, 6);
        TwoQuarries marble = Check.drawn("...", ".pp", "cmp");
        duel(marble, "nothing is best", 2, -1, 9);
        // who cuts the granite opens the marble for the other one: south does nothing either
        TwoQuarries shut = Check.drawn("...", "pp.", "pmg");
        duel(shut, "shut", 1, 2, 8);
        duel(shut, "shut", 2, -2, 8);
        duel(shut, "shut", 3, 2, 9);
    }

    private static void duelRefused() {
        Document.says("Promise 14", "DUEL of n: by how much, or (first) what NORTH cuts first. -1000: another n,"
                + " there is none such, or (first) n is 0.");
        TwoQuarries x = Check.drawn("mc", "cc");
        duel(x, "asked", 0, 0, -1000);
        duel(x, "asked", 1, 4, 0);
        duel(x, "asked", 3, 4, 0);
        for (boolean first : new boolean[] {false, true}) {
            for (int n : OTHER_N) {
                Check.due("duel of " + n, x.duel(0, n, first), -1000);
            }
            for (int hill : HillBounds.NO_HILL) {
                for (int n = 0; n <= 3; n++) {
                    Check.due("duel in hill " + hill, x.duel(hill, n, first), -1000);
                }
            }
        }
    }

    private static void steady(int side, int many, int worth, String... rows) {
        TwoQuarries x = Check.drawn(rows);
        String call = "steady of side " + side + ", " + String.join("/", rows);
        Check.due(call, x.steady(0, side, false), many);
        Check.due(call + ", worth", x.steady(0, side, true), worth);
    }

    private static void steady() {
        Document.says("Term 5", "STEADY of a SIDE: again and again it cuts the SAFE one of least number, until there"
                + " is none: how many CUTS; their WORTH.");
        for (int side = 0; side < 2; side++) {
            for (int wide = 2; wide <= 8; wide++) {
                String[] rows = new String[6];
                Arrays.fill(rows, "m".repeat(wide));
                steady(side, 6 * wide, 24 * wide, rows);
            }
            steady(side, 0, 0, "..", "pp");
            steady(side, 0, 0, "ccc", "c.c");
            // the middle of a beam goes first, then all of it
            steady(side, 5, 5, "...", "ccc", "c.c");
            steady(side, 1, 4, "....", "pmp.", "p.p.");
        }
        // from its own side alone, up to the wall; what is under a prop stays
        steady(0, 2, 3, "cpc", "gpm");
        steady(1, 2, 5, "cpc", "gpm");
        steady(0, 0, 0, "p.", "c.");
        steady(0, 0, 0, ".p.", "pmm");
        steady(1, 1, 4, ".p.", "pmm");
    }

    private static void steadyAsked() {
        Document.says("Promise 26", "STEADY of a SIDE: how many, or (worth) their WORTH. NONE: another SIDE, or there"
                + " is none such.");
        TwoQuarries x = Check.drawn("..", "mm");
        for (boolean worth : new boolean[] {false, true}) {
            Check.due("steady", x.steady(0, 1, worth), worth ? 8 : 2);
            for (int side : HillBounds.NO_SIDE) {
                Check.due("steady of side " + side, x.steady(0, side, worth), -1);
            }
            for (int hill : HillBounds.NO_HILL) {
                Check.due("steady in hill " + hill, x.steady(hill, 0, worth), -1);
            }
        }
    }

    private static void race(TwoQuarries x, String name, int n, int north, int south, int thick) {
        int[] due = {north, south, thick};
        for (int what = 0; what < 3; what++) {
            Check.due(name + ": race of " + n + ", " + what, x.race(0, n, what), due[what]);
        }
    }

    private static void race() {
        Document.says("Term 5", "RACE of n, 0 .. 40: by turns, NORTH first, n times in all, each cuts the SAFE one of"
                + " most WORTH, of several the least (none: nothing): WORTH of NORTH, of SOUTH, THICK behind all"
                + " (NONE).");
        // safe ones alone: the granite and the marble come when nothing lies on them
        TwoQuarries wall = Check.drawn("cpc", "gpm");
        int[][] due = {{0, 0}, {1, 0}, {1, 1}, {3, 1}, {3, 5}, {3, 5}, {3, 5}};
        for (int n = 0; n < due.length; n++) {
            race(wall, "wall", n, due[n][0], due[n][1], -1);
        }
        race(wall, "wall", 40, 3, 5, -1);
        // the dearest first, of several the least, though both can cut all
        TwoQuarries both = Check.drawn("......", "cmgmgc");
        int[][] taken = {{0, 0}, {4, 0}, {4, 4}, {6, 4}, {6, 6}, {7, 6}, {7, 7}, {7, 7}};
        for (int n = 0; n < taken.length; n++) {
            race(both, "both", n, taken[n][0], taken[n][1], 0);
        }
        // who has nothing to cut does nothing, and the other one goes on
        TwoQuarries alone = Check.drawn("mpp", "cpp");
        race(alone, "north alone", 2, 4, 0, -1);
        race(alone, "north alone", 3, 5, 0, -1);
        race(alone, "north alone", 40, 5, 0, -1);
        TwoQuarries south = Check.drawn("ppm", "ppc");
        race(south, "south alone", 1, 0, 0, -1);
        race(south, "south alone", 2, 0, 4, -1);
        race(south, "south alone", 4, 0, 5, -1);
        TwoQuarries least = Check.drawn("...", "cpc");
        race(least, "the least for south, too", 2, 1, 1, 0);
        // each cut makes the way thinner
        TwoQuarries way = Check.drawn("mgm", "ppp");
        race(way, "a way", 1, 4, 0, 2);
        race(way, "a way", 2, 4, 4, 1);
        race(way, "a way", 3, 6, 4, 0);
    }

    private static void longRace() {
        Document.says("Term 5", "RACE of n, 0 .. 40: by turns, NORTH first, n times in all");
        TwoQuarries x = Check.drawn("cccccccc", "cccccccc", "cccccccc", "cccccccc", "cccccccc", "cccccccc");
        for (int n = 0; n <= 40; n++) {
            race(x, "all chalk", n, (n + 1) / 2, n / 2, Math.max(0, 8 - n));
        }
    }

    private static void raceAsked() {
        Document.says("Promise 27", "RACE of n, what 0, 1: WORTH of NORTH, of SOUTH, 2: THICK. -2: another n, there"
                + " is none such, or for another what.");
        TwoQuarries x = Check.drawn("cc", "cc");
        race(x, "asked", 0, 0, 0, 2);
        race(x, "asked", 40, 2, 2, 0);
        for (int what = 0; what < 3; what++) {
            for (int n : new int[] {MIN, -2, -1, 41, 42, MAX}) {
                Check.due("race of " + n, x.race(0, n, what), -2);
            }
            for (int hill : HillBounds.NO_HILL) {
                Check.due("race in hill " + hill, x.race(hill, 1, what), -2);
            }
        }
        for (int what : new int[] {MIN, -2, -1, 3, 4, 100, MAX}) {
            Check.due("race, " + what, x.race(0, 1, what), -2);
        }
    }
}
