/** Promises 6, 10 to 12, 15 to 17, 22 to 25 and 31 to 34: what is asked of a hill as told. */
public final class HillTest {
    private static final int MAX = Integer.MAX_VALUE;
    private static final int MIN = Integer.MIN_VALUE;

    private HillTest() {
    }

    public static void main(String[] args) {
        allChalk();
        stalls();
        beam();
        wall();
        nothingButAir();
        widest();
        quakes();
        noSuchHill();
        twoHills();
        Check.close("HillTest");
    }

    /** The hill as it is at first: six wide, four high, all chalk. */
    private static void allChalk() {
        TwoQuarries x = new TwoQuarries();
        Check.told(x, Check.HILL, -1, "", 0);
        int[] first = {6, 4, 24, 24};
        for (int what = 0; what < 4; what++) {
            Check.due("chalk hill(0, " + what + ")", x.hill(0, what), first[what]);
        }
        Check.due("chalk hill(0, 123)", x.hill(0, 123), 1);
        for (int what : new int[] {-1, 4, 99, 124, MAX, MIN}) {
            Check.due("chalk hill(0, " + what + ")", x.hill(0, what), -1);
        }
        Check.due("chalk thick", x.thick(0), 6);
        Check.due("chalk path", x.path(0), 6);
        int[] left = {0, 6, 12, 18, -1, -1};
        int[] right = {5, 11, 17, 23, -1, -1};
        for (int k = 0; k < 6; k++) {
            Check.due("chalk cuts of north, " + k, x.cuts(0, 0, false, k), left[k]);
            Check.due("chalk cuts of south, " + k, x.cuts(0, 1, false, k), right[k]);
        }
        Check.due("chalk cuts of north", x.cuts(0, 0, false, -1), 4);
        Check.due("chalk safe cuts of north", x.cuts(0, 0, true, -1), 1);
        Check.due("chalk safe cut of north", x.cuts(0, 0, true, 0), 0);
        Check.due("chalk safe cut of south", x.cuts(0, 1, true, 0), 5);
        Check.due("chalk safe cut 1", x.cuts(0, 0, true, 1), -1);
        Check.due("chalk cuts of side 2", x.cuts(0, 2, false, -1), -1);
        Check.due("chalk cuts of side -1", x.cuts(0, -1, true, -1), -1);
        Check.due("chalk cuts at -2", x.cuts(0, 0, false, -2), -1);
        Check.due("chalk cuts at most", x.cuts(0, 0, false, MAX), -1);
        int[] fell = {0, 0, 0, 0, 0, 0, 1, 0, 0, 0, 0, 1, 2, 0, 0, 0, 0, 2, 3, 0, 0, 0, 0, 3};
        for (int cell = 0; cell < fell.length; cell++) {
            Check.due("chalk fell(0, " + cell + ")", x.fell(0, cell), fell[cell]);
        }
        Check.due("chalk fell of the weakest", x.fell(0, -1), 3);
        Check.due("chalk weakest", x.fell(0, -2), 18);
        for (int cell : new int[] {-3, 24, 47, MAX, MIN}) {
            Check.due("chalk fell(0, " + cell + ")", x.fell(0, cell), -1);
        }
        allChalkLater(x);
    }

    private static void allChalkLater(TwoQuarries x) {
        Check.due("chalk border", x.border(0, false), 3);
        Check.due("chalk border apart", x.border(0, true), 0);
        int[] pillars = {24, 6, 4, 2, 0};
        for (int n = 0; n < pillars.length; n++) {
            Check.due("chalk pillars(0, " + n + ")", x.pillars(0, n), pillars[n]);
        }
        Check.due("chalk pillars(0, 48)", x.pillars(0, 48), 0);
        Check.due("chalk pillars(0, 49)", x.pillars(0, 49), -1);
        Check.due("chalk pillars(0, -1)", x.pillars(0, -1), -1);
        for (int side = 0; side < 2; side++) {
            Check.due("chalk nearer", x.nearer(0, side), 12);
            Check.due("chalk streak", x.streak(0, side), 1);
        }
        for (int side : new int[] {-1, 2, MAX}) {
            Check.due("chalk nearer of side " + side, x.nearer(0, side), -1);
            Check.due("chalk streak of side " + side, x.streak(0, side), -1);
            Check.due("chalk comes of side " + side, x.comes(0, side, 0), -1);
        }
        Check.due("chalk comes of north to 5", x.comes(0, 0, 5), 6);
        Check.due("chalk comes of south to 5", x.comes(0, 1, 5), 1);
        Check.due("chalk comes of south to 18", x.comes(0, 1, 18), 6);
        Check.due("chalk comes to 24", x.comes(0, 0, 24), -1);
        Check.due("chalk comes to -1", x.comes(0, 0, -1), -1);
        int[] caves = {0, 0, 0, 1};
        for (int what = 0; what < 4; what++) {
            Check.due("chalk caves(0, " + what + ")", x.caves(0, what), caves[what]);
        }
        Check.due("chalk caves(0, 4)", x.caves(0, 4), -1);
        Check.due("chalk caves(0, -1)", x.caves(0, -1), -1);
        Check.due("chalk crest", x.crest(0, false), 0);
        Check.due("chalk crest's worth", x.crest(0, true), 6);
        Check.due("chalk shored by none", x.shored(0, 0, -1), 2);
        Check.due("chalk shored by none, 0", x.shored(0, 0, 0), -1);
        Check.due("chalk shored by 1", x.shored(0, 1, -1), -1);
        Check.due("chalk shored by 2", x.shored(0, 2, -1), -1);
        Check.due("chalk shored by 2, 0", x.shored(0, 2, 0), -1);
        Check.due("chalk shored by 3", x.shored(0, 3, -1), -1);
        Check.due("chalk shored by -1", x.shored(0, -1, -1), -1);
        Check.due("chalk propped(0, 18)", x.propped(0, 18, -1), -1);
        Check.due("chalk propped(0, 7)", x.propped(0, 7, -1), 0);
        Check.due("chalk quake of all", x.quake(0, 10, false), 18);
        Check.due("chalk quake of none", x.quake(0, 0, false), 0);
        Check.due("chalk quake of none, under", x.quake(0, 0, true), 1);
    }

    /** Two columns and a prop on a stone between them, all under open air. */
    private static void stalls() {
        TwoQuarries x = Check.drawn(".....", "c.p.m", "c.c.g");
        Check.due("stalls: stones", x.hill(0, 2), 5);
        Check.due("stalls: worth", x.hill(0, 3), 9);
        Check.due("stalls: thick", x.thick(0), 0);
        Check.due("stalls: path", x.path(0), 5);
        int[] cuts = {5, 9, 10, 12, 14};
        for (int k = 0; k < 5; k++) {
            Check.due("stalls: cut " + k, x.cuts(0, 0, false, k), cuts[k]);
        }
        Check.due("stalls: safe cuts", x.cuts(0, 1, true, -1), 2);
        Check.due("stalls: safe cut 0", x.cuts(0, 1, true, 0), 5);
        Check.due("stalls: safe cut 1", x.cuts(0, 1, true, 1), 9);
        Check.due("stalls: a prop is lost", x.fell(0, 12), 1);
        Check.due("stalls: fell of a prop", x.fell(0, 7), -1);
        Check.due("stalls: fell of air", x.fell(0, 0), -1);
        Check.due("stalls: weakest", x.fell(0, -2), 10);
        Check.due("stalls: pillars", x.pillars(0, 1), 3);
        Check.due("stalls: border", x.border(0, false), 3);
        Check.due("stalls: border apart", x.border(0, true), 3);
        Check.due("stalls: propped by two", x.propped(0, 12, -1), 2);
        Check.due("stalls: propped, 0", x.propped(0, 12, 0), 6);
        Check.due("stalls: propped, 1", x.propped(0, 12, 1), 8);
        Check.due("stalls: propped, 2", x.propped(0, 12, 2), -1);
        Check.due("stalls: propped, -2", x.propped(0, 12, -2), -1);
        Check.due("stalls: not by two", x.propped(0, 10, -1), -1);
        Check.due("stalls: no prop is needed", x.propped(0, 5, -1), 0);
        Check.due("stalls: no prop is needed, 0", x.propped(0, 5, 0), -1);
        for (int cell : new int[] {7, 0, 15, -1, MAX, MIN}) {
            Check.due("stalls: propped(0, " + cell + ")", x.propped(0, cell, -1), -1);
        }
        int[] caves = {1, 9, 5, 0};
        for (int what = 0; what < 4; what++) {
            Check.due("stalls: caves(0, " + what + ")", x.caves(0, what), caves[what]);
        }
        for (int side = 0; side < 2; side++) {
            Check.due("stalls: nearer", x.nearer(0, side), 0);
            Check.due("stalls: streak", x.streak(0, side), 1);
            Check.due("stalls: comes to a prop", x.comes(0, side, 7), -1);
            Check.due("stalls: comes to air", x.comes(0, side, 11), 0);
            Check.due("stalls: comes to a stone", x.comes(0, side, 14), 1);
        }
        Check.due("stalls: crest", x.crest(0, false), 1);
        Check.due("stalls: crest's worth", x.crest(0, true), 5);
        int[][] shored = {{4, -1, -1}, {4, 11, -1}, {4, 6, 11}};
        for (int n = 0; n < 3; n++) {
            Check.due("stalls: shored by " + n, x.shored(0, n, -1), shored[n][0]);
            Check.due("stalls: shored, 0", x.shored(0, n, 0), shored[n][1]);
            Check.due("stalls: shored, 1", x.shored(0, n, 1), shored[n][2]);
            Check.due("stalls: shored, 2", x.shored(0, n, 2), -1);
            Check.due("stalls: shored, -2", x.shored(0, n, -2), -1);
        }
    }

    /** Two props next to one another bear each other between two stones. */
    private static void beam() {
        TwoQuarries x = Check.drawn("cccc", "c..c", "c..c");
        Check.due("beam: fell", x.fell(0, 2), 1);
        Check.due("beam: propped", x.propped(0, 2, -1), 2);
        Check.due("beam: propped, 0", x.propped(0, 2, 0), 5);
        Check.due("beam: propped, 1", x.propped(0, 2, 1), 6);
        TwoQuarries low = Check.drawn("cccc", "c..c");
        Check.due("beam: one is enough", low.propped(0, 2, -1), 1);
        Check.due("beam: that one", low.propped(0, 2, 0), 5);
    }

    private static void wall() {
        TwoQuarries x = Check.drawn("cpc", "gpm");
        Check.due("wall: thick", x.thick(0), -1);
        Check.due("wall: path", x.path(0), -1);
        Check.due("wall: comes of north to 2", x.comes(0, 0, 2), -1);
        Check.due("wall: comes of south to 2", x.comes(0, 1, 2), 1);
        Check.due("wall: nearer of north", x.nearer(0, 0), 3);
        Check.due("wall: nearer of south", x.nearer(0, 1), 5);
        Check.due("wall: safe cuts of north", x.cuts(0, 0, true, 0), 0);
        Check.due("wall: caves", x.caves(0, 0), 0);
        Check.due("wall: mirrored", x.caves(0, 3), 0);
        Check.due("wall: crest", x.crest(0, false), 1);
        TwoQuarries bent = Check.drawn("cp...", "cpcp.", "c.cp.");
        Check.due("bent: thick", bent.thick(0), 3);
        Check.due("bent: path", bent.path(0), 7);
        TwoQuarries pit = Check.drawn("p...p", "p...p", "ccccc");
        Check.due("pit: a longer way of fewer stones", pit.thick(0), 4);
        Check.due("pit: its cells", pit.path(0), 7);
        TwoQuarries round = Check.drawn("......", "ccpccc", "cccccc");
        Check.due("round: thick", round.thick(0), 0);
        Check.due("round: comes of north to 14", round.comes(0, 0, 14), 3);
    }

    private static void nothingButAir() {
        TwoQuarries x = Check.drawn("..", "..");
        Check.due("air: stones", x.hill(0, 2), 0);
        Check.due("air: thick", x.thick(0), 0);
        Check.due("air: path", x.path(0), 2);
        Check.due("air: weakest", x.fell(0, -2), -1);
        Check.due("air: fell of the weakest", x.fell(0, -1), -1);
        Check.due("air: cuts", x.cuts(0, 0, false, -1), 0);
        Check.due("air: border", x.border(0, false), 0);
        Check.due("air: border apart", x.border(0, true), 0);
        Check.due("air: crest", x.crest(0, false), 0);
        Check.due("air: crest's worth", x.crest(0, true), 0);
        int[] caves = {1, 4, 2, 1};
        for (int what = 0; what < 4; what++) {
            Check.due("air: caves(0, " + what + ")", x.caves(0, what), caves[what]);
        }
        Check.due("air: pillars", x.pillars(0, 0), 0);
        Check.due("air: nearer", x.nearer(0, 0), 0);
        Check.due("air: streak", x.streak(0, 0), 0);
        Check.due("air: quake", x.quake(0, 7, false), 0);
        Check.due("air: quake, under", x.quake(0, 7, true), 1);
        Check.due("air: shored by 1", x.shored(0, 1, -1), 0);
        Check.due("air: shored by 1, 0", x.shored(0, 1, 0), 2);
        Check.due("air: shored by 2, one on the other, 0", x.shored(0, 2, 0), 0);
        Check.due("air: shored by 2, one on the other, 1", x.shored(0, 2, 1), 2);
    }

    /** Eight wide: nothing goes from a row's end to the next row's beginning. */
    private static void widest() {
        TwoQuarries x = Check.drawn("........", "........", "........", ".......c", "p......c", "pggggggc");
        Check.due("widest: cells", x.hill(0, 147), 1);
        Check.due("widest: no cell 48", x.hill(0, 148), -1);
        Check.due("widest: caves", x.caves(0, 0), 1);
        Check.due("widest: span", x.caves(0, 2), 8);
        Check.due("widest: largest", x.caves(0, 1), 37);
        Check.due("widest: north comes to 31", x.comes(0, 0, 31), 1);
        TwoQuarries ends = Check.drawn("c......c", "c......c");
        Check.due("ends: span", ends.caves(0, 2), 6);
        Check.due("ends: mirrored", ends.caves(0, 3), 1);
        Check.due("ends: cuts of north", ends.cuts(0, 0, false, -1), 2);
        Check.due("ends: cuts of south, 1", ends.cuts(0, 1, false, 1), 15);
        Check.due("ends: fell(0, 8)", ends.fell(0, 8), 1);
        Check.due("ends: fell(0, 15)", ends.fell(0, 15), 1);
        Check.due("ends: thick", ends.thick(0), 2);
        TwoQuarries two = Check.drawn(".c.cc.cc", "cccccccc");
        Check.due("two: streak of north", two.streak(0, 0), 1);
        Check.due("two: caves", two.caves(0, 0), 3);
        TwoQuarries top = Check.drawn("........", "cc.ccc.c", "gggggggg");
        Check.due("top: streak of north", top.streak(0, 0), 3);
        Check.due("top: streak of south", top.streak(0, 1), 3);
    }

    private static void quakes() {
        TwoQuarries x = Check.drawn("cc", "cc");
        long[][] mean = {{0, 1}, {1, 5}, {2, 5}, {3, 5}, {4, 5}, {1, 1}, {6, 5}, {7, 5}, {8, 5}, {9, 5}, {2, 1}};
        for (int p = 0; p <= 10; p++) {
            Check.due("quake of " + p, x.quake(0, p, false), mean[p][0]);
            Check.due("quake of " + p + ", under", x.quake(0, p, true), mean[p][1]);
        }
        Check.due("quake of 11", x.quake(0, 11, false), -1);
        Check.due("quake of -1", x.quake(0, -1, true), -1);
        TwoQuarries three = Check.drawn("ccc", "ccc");
        // the outer two by 1/2 each; the middle one by 1/2 times 3/4
        Check.due("quake under a bridge", three.quake(0, 5, false), 11);
        Check.due("quake under a bridge, under", three.quake(0, 5, true), 8);
        TwoQuarries prop = Check.drawn("pcg", "pcp");
        // only the middle stone can go, and what is above it is bridged
        Check.due("quake among props", prop.quake(0, 10, false), 0);
        TwoQuarries stall = Check.drawn("p.p", "c.g");
        Check.due("quake that takes props along", stall.quake(0, 1, false), 1);
        Check.due("quake that takes props along, under", stall.quake(0, 1, true), 5);
    }

    private static void noSuchHill() {
        TwoQuarries x = Check.drawn("cc", "cc");
        for (int hill : new int[] {-1, 1, 2, MAX, MIN}) {
            Check.due("hill of none", x.hill(hill, 0), -1);
            Check.due("thick of none", x.thick(hill), -1);
            Check.due("cuts of none", x.cuts(hill, 0, false, -1), -1);
            Check.due("fell of none", x.fell(hill, 0), -1);
            Check.due("border of none", x.border(hill, false), -1);
            Check.due("propped of none", x.propped(hill, 0, -1), -1);
            Check.due("quake of none", x.quake(hill, 0, true), -1);
            Check.due("path of none", x.path(hill), -1);
            Check.due("caves of none", x.caves(hill, 0), -1);
            Check.due("pillars of none", x.pillars(hill, 0), -1);
            Check.due("nearer of none", x.nearer(hill, 0), -1);
            Check.due("comes of none", x.comes(hill, 0, 0), -1);
            Check.due("crest of none", x.crest(hill, true), -1);
            Check.due("shored of none", x.shored(hill, 0, -1), -1);
            Check.due("streak of none", x.streak(hill, 0), -1);
        }
    }

    private static void twoHills() {
        TwoQuarries x = Check.drawn("cc", "cc");
        Check.told(x, Check.HILL, -1, Check.textOf("m.m", "ggg"), 1);
        Check.due("two hills: wide", x.hill(1, 0), 3);
        Check.due("two hills: worth", x.hill(1, 3), 14);
        Check.due("two hills: the first", x.hill(0, 3), 4);
        Check.told(x, Check.HILL, 0, Check.textOf("...", "..."), 0);
        Check.due("two hills: the first anew", x.hill(0, 2), 0);
        Check.due("two hills: the second", x.hill(1, 3), 14);
    }
}
