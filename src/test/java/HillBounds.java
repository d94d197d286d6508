/** The edges of promises 6 and 10 to 12, and of what terms 2 and 3 say of standing, falling, reaching, cutting. */
final class HillBounds {
    static final int MAX = Integer.MAX_VALUE;
    static final int MIN = Integer.MIN_VALUE;
    static final int[] NO_HILL = {MIN, -2, -1, 1, 2, 3, MAX};
    static final int[] NO_SIDE = {MIN, -2, -1, 2, 3, MAX};

    /** A way that goes right, up, left, up, right; of props but for its cells. */
    static final String[] BENT = {"p....", "pcppp", "p...p", "pppgp", "c...p"};

    private HillBounds() {
    }

    static void tryAll() {
        standing();
        atTheRim();
        falling();
        reached();
        cutting();
        thick();
        hillAsked();
        hillRefused();
        thickAsked();
        thickRefused();
        cutsOfASide();
        safeOnes();
        cutsAsked();
        cutsRefused();
        fell();
        weak();
        fellAsked();
        fellRefused();
    }

    private static void stands(boolean due, String... rows) {
        TwoQuarries x = new TwoQuarries();
        String name = String.join("/", rows);
        Check.due("text() of " + name, Check.tell(x, Check.HILL, -1, Check.textOf(rows)), due ? 0 : -1);
        Check.due("fault(0) of " + name, x.fault(0), due ? 0 : 5);
    }

    private static void standing() {
        Document.says("Term 2", "A STONE or a PROP STANDS, if it is in the lowest row, or the CELL below it is not"
                + " AIR, or there are CELLS left and right of it (in its row), neither of which is AIR.");
        for (char middle : "cmgp".toCharArray()) {
            for (char left : ".cmgp".toCharArray()) {
                for (char right : ".cmgp".toCharArray()) {
                    for (char below : ".cmgp".toCharArray()) {
                        boolean due = below != '.' || (left != '.' && right != '.');
                        stands(due, "...", "" + left + middle + right, "c" + below + "p");
                    }
                }
            }
        }
        for (String low : new String[] {"c.", ".c", "m.", ".g", "p.", ".p"}) {
            stands(true, "..", low);
            stands(true, "..", "..", "..", "..", "..", low);
            stands(false, low, "..");
            stands(false, "..", "..", "..", "..", low, "..");
        }
        // a cell above does not hold, nor cells two off
        stands(false, "c.c", "c.c", "c.c", "..c", "c.c");
        stands(false, "c.c.c", "c...c", "c...c");
        stands(true, "ccccc", "c...c", "c...c");
    }

    private static void atTheRim() {
        Document.says("Term 2", "there are CELLS left and right of it (in its row), neither of which is AIR.");
        for (int wide = 2; wide <= 8; wide++) {
            String full = "c".repeat(wide);
            String tail = "c".repeat(wide - 1);
            stands(true, full, full);
            // no cell is left of the first one or right of the last one: other rows' ends are not
            stands(false, full, full, "." + tail);
            stands(false, full, full, tail + ".");
            stands(false, full, "." + tail, full);
            stands(false, full, tail + ".", full);
        }
    }

    private static void falling() {
        Document.says("Term 2", "FALL: as long as one does not STAND, the first of these by numbers is AIR; it is"
                + " LOST.");
        TwoQuarries x = Check.drawn("c.", "m.", "p.", "g.", "p.", "cc");
        int[] due = {0, -1, 1, -1, -1, -1, 3, -1, -1, -1, 5, 0};
        for (int cell = 0; cell < due.length; cell++) {
            Check.due("all above it falls, prop or stone: " + cell, x.fell(0, cell), due[cell]);
        }
        TwoQuarries beam = Check.drawn("cgmpc", "c...c");
        Check.due("one behind the other along a row, from its left", beam.fell(0, 0), 3);
        Check.due("one behind the other along a row, from its right", beam.fell(0, 4), 3);
        Check.due("from its middle to both sides", beam.fell(0, 2), 2);
        Check.due("all of it", beam.fell(0, 5), 4);
        TwoQuarries both = Check.drawn("ccccccc", "c..c..c", "c..c..c");
        Check.due("up, and then aside", both.fell(0, 14), 4);
        Check.due("up, and not aside", both.fell(0, 17), 1);
        TwoQuarries held = Check.drawn("ccc", "ccc", "ccc");
        Check.due("what is between two stays", held.fell(0, 7), 0);
        Check.due("what is at the rim falls", held.fell(0, 6), 2);
        Check.told(beam, Check.YEAR, -1, "north 0 1;", 0);
        Check.due("lost in a year", beam.state(0, 0, 1, 4), 4);
        for (int cell = 0; cell < 5; cell++) {
            Check.due("lost is air: " + cell, beam.state(0, 0, 1, 100 + cell), cell == 4 ? 1 : 0);
        }
        Check.due("what is left of it", beam.state(0, 0, 1, 7), 2);
    }

    private static void cuts(TwoQuarries x, String name, int side, boolean safe, int... due) {
        String call = name + ": " + (safe ? "safe " : "") + "cuts of side " + side;
        Check.due(call, x.cuts(0, side, safe, -1), due.length);
        for (int k = 0; k < due.length; k++) {
            Check.due(call + ", " + k, x.cuts(0, side, safe, k), due[k]);
        }
        Check.due(call + ", not so many", x.cuts(0, side, safe, due.length), -1);
    }

    private static void reached() {
        Document.says("Term 2", "REACHED by a SIDE are AIR CELLS to which there is a way of AIR CELLS (up, right,"
                + " down, left) from one in its outermost column (0 of NORTH, the last of SOUTH).");
        TwoQuarries shut = Check.drawn("ppppp", "p.g.p", "ppppp");
        cuts(shut, "a shut cave", 0, false);
        cuts(shut, "a shut cave", 1, false);
        // from its own column alone
        TwoQuarries own = Check.drawn("..p..", "cmpgm", "ppppp");
        cuts(own, "its own column", 0, false, 5, 6);
        cuts(own, "its own column", 1, false, 8, 9);
        TwoQuarries through = Check.drawn(".....", "ccpgg", "ppppp");
        cuts(through, "both columns", 0, false, 5, 6, 8, 9);
        cuts(through, "both columns", 1, false, 5, 6, 8, 9);
        for (int wide = 3; wide <= 8; wide++) {
            String props = "p".repeat(wide - 1);
            // a row's end is not next to the next row's beginning
            TwoQuarries end = Check.drawn(props + ".", "m" + props);
            cuts(end, "a row's end", 1, false);
            cuts(end, "a row's end", 0, false, wide);
            TwoQuarries beginning = Check.drawn("." + "p".repeat(wide - 2) + "m", "." + props);
            cuts(beginning, "a row's beginning", 0, false);
            cuts(beginning, "a row's beginning", 1, false, wide - 1);
        }
        // no air is below what stands, but where props of a year hang: the way goes right, down, left; and right, up, right
        ways("north 1 3;", "#####/....#/###.#/#m..#", ".....", ".....", ".....", ".m...");
        ways("north 4 0;", "##..m/##.#p/##.#p/...#p", "....m", "....p", "....p", "....p");
        ways("south 3 3;", "#####/#..../#.###/#..m#", ".....", ".....", ".....", "...m.");
        ways("south 0 0;", "m..##/p#.##/p#.##/p#...", "m....", "p....", "p....", "p....");
    }

    /**
     * Props make a way of air (#: a prop; .: the way): by it the stone can be cut, and not if any cell of it is a prop,
     * too.
     */
    private static void ways(String cut, String walls, String... rows) {
        TwoQuarries x = Check.drawn(rows);
        StringBuilder props = new StringBuilder();
        int many = 0;
        for (int at = 0; at < walls.length(); at++) {
            if (walls.charAt(at) == '#') {
                props.append("prop ").append(at % 6).append(' ').append(at / 6).append(';');
                many++;
            }
        }
        Check.told(x, Check.YEAR, -1, props + cut, 0);
        Check.due(cut + " by the way", x.stop(0, 0), many + 1);
        for (int at = 0; at < walls.length(); at++) {
            if (walls.charAt(at) == '.') {
                String one = "prop " + at % 6 + " " + at / 6 + ";";
                Check.told(x, Check.YEAR, 0, props + one + cut, 0);
                Check.due(cut + " without " + one, x.stop(0, 0), many + 1);
                Check.due(cut + " of all behind " + one, x.deed(0, -1, 0), many + 2);
            }
        }
    }

    private static void cutting() {
        Document.says("Term 2", "It can CUT a STONE that is in its outermost column or next to a CELL that it has"
                + " REACHED.");
        TwoQuarries column = Check.drawn("c...c", "m...m", "p...p", "g...g");
        cuts(column, "columns", 0, false, 0, 5, 15);
        cuts(column, "columns", 1, false, 4, 9, 19);
        TwoQuarries two = Check.drawn("cm", "pg", "gc");
        cuts(two, "outermost columns", 0, false, 0, 4);
        cuts(two, "outermost columns", 1, false, 1, 3, 5);
        // what is two off, or at a corner of the air, is not next to it
        TwoQuarries beside = Check.drawn(".cmp", ".gmp", "mcmp");
        cuts(beside, "beside two cells", 0, false, 1, 5, 8);
        TwoQuarries inner = Check.drawn("..mp", "..gp", "pcmp");
        cuts(inner, "beside four cells", 0, false, 2, 6, 9);
        TwoQuarries corner = Check.drawn(".ppp", "pmpp", "pppp");
        cuts(corner, "at a corner", 0, false);
        TwoQuarries left = Check.drawn("p...", "pc.p", "pppp");
        cuts(left, "left of a cell", 1, false, 5);
        TwoQuarries widest = Check.drawn("ccccccc.", "cccccccc");
        cuts(widest, "eight wide", 0, false, 0, 8);
        cuts(widest, "eight wide", 1, false, 6, 15);
        TwoQuarries props = Check.drawn("pp", "pp");
        cuts(props, "props are no stones", 0, false);
        cuts(props, "props are no stones", 1, false);
    }

    private static void thick() {
        Document.says("Term 2", "THICK: the fewest STONES on a way of CELLS that are no PROP (up, right, down, left),"
                + " from one in column 0 to one in the last column (both counted): 0: it is THROUGH; NONE: there is"
                + " no way.");
        for (int wide = 2; wide <= 8; wide++) {
            String full = "g".repeat(wide);
            String inner = "." + "c".repeat(wide - 2) + ".";
            Check.due("thick of " + full, Check.drawn(full, full).thick(0), wide);
            Check.due("thick of " + inner, Check.drawn(inner, full).thick(0), wide - 2);
            Check.due("thick of air", Check.drawn(".".repeat(wide), full).thick(0), 0);
        }
        Check.due("only the first column counted", Check.drawn("c..", "cpp").thick(0), 1);
        Check.due("only the last column counted", Check.drawn("..m", "ppm").thick(0), 1);
        Check.due("a way that bends", Check.drawn(BENT).thick(0), 3);
        Check.due("a wall of props", Check.drawn("cpc", "cpc").thick(0), -1);
        Check.due("props in column 0", Check.drawn("pcc", "pcc").thick(0), -1);
        Check.due("props in the last column", Check.drawn("ccp", "ccp").thick(0), -1);
        Check.due("not across corners", Check.drawn("cp", "pc").thick(0), -1);
        Check.due("a long way of fewer stones", Check.drawn("......", ".pccp.", ".cccc.").thick(0), 0);
        Check.due("a long way round", Check.drawn("p...p", "p...p", "ccccc").thick(0), 4);
        Check.due("a row's end is no way on", Check.drawn("ccccccpp", "pcccccpp", "pppppppc").thick(0), -1);
        Check.due("air counts nothing", Check.drawn(".c.c.c.c", "pppppppp").thick(0), 4);
    }

    private static void hillAsked() {
        Document.says("Promise 6", "Of a HILL, what 0: WIDE, 1: HIGH, 2: how many STONES, 3: their WORTH together,"
                + " 100 + c: KIND of a CELL.");
        TwoQuarries x = Check.drawn("c.m.g.p.", "cmgpcmgp", "cccccccc", "mmmmmmmm", "gggggggg", "pppppppp");
        int[] due = {8, 6, 3 + 6 + 24, 7 + 14 + 8 + 32 + 16};
        for (int what = 0; what < due.length; what++) {
            Check.due("hill, " + what, x.hill(0, what), due[what]);
        }
        String kinds = "1020304012341234" + "1".repeat(8) + "2".repeat(8) + "3".repeat(8) + "4".repeat(8);
        for (int cell = 0; cell < 48; cell++) {
            Check.due("hill, cell " + cell, x.hill(0, 100 + cell), kinds.charAt(cell) - '0');
        }
        TwoQuarries rich = Check.drawn("mm", "mm");
        Check.due("worth of marble alone", rich.hill(0, 3), 16);
        Check.due("worth of nothing", Check.drawn("..", "pp").hill(0, 3), 0);
    }

    private static void hillRefused() {
        Document.says("Promise 6", "NONE: there is none such (of either), or for another what.");
        TwoQuarries x = Check.drawn("cc", "cc");
        for (int what : new int[] {MIN, -101, -1, 4, 5, 50, 99, 104, 105, 147, 148, MAX}) {
            Check.due("hill, " + what, x.hill(0, what), -1);
        }
        for (int hill : NO_HILL) {
            for (int what : new int[] {0, 1, 2, 3, 100}) {
                Check.due("hill " + hill + ", " + what, x.hill(hill, what), -1);
                Check.due("hill " + hill + " of none, " + what, new TwoQuarries().hill(hill, what), -1);
            }
        }
        TwoQuarries widest = Check.drawn("cccccccc", "cccccccc", "cccccccc", "cccccccc", "cccccccc", "cccccccc");
        Check.due("cell 47 of 48", widest.hill(0, 147), 1);
        Check.due("cell 48 of 48", widest.hill(0, 148), -1);
    }

    private static void thickAsked() {
        Document.says("Promise 10", "THICK.");
        TwoQuarries x = Check.drawn("ccc", "ccc");
        Check.told(x, Check.HILL, -1, Check.textOf("..", "pp"), 1);
        Check.due("thick of hill 0", x.thick(0), 3);
        Check.due("thick of hill 1", x.thick(1), 0);
    }

    private static void thickRefused() {
        Document.says("Promise 10", "NONE: there is no way, or there is none such.");
        TwoQuarries x = Check.drawn("ppp", "ccc");
        Check.due("a way below", x.thick(0), 3);
        Check.told(x, Check.HILL, 0, Check.textOf("cpc", "cpc"), 0);
        Check.due("no way", x.thick(0), -1);
        for (int hill : NO_HILL) {
            Check.due("thick of hill " + hill, x.thick(hill), -1);
        }
    }

    private static void cutsOfASide() {
        Document.says("Term 3", "(Of a HILL as told.) CUTS of a SIDE: STONES it can CUT.");
        TwoQuarries x = Check.drawn("cgm", "cmg");
        cuts(x, "as told", 0, false, 0, 3);
        cuts(x, "as told", 1, false, 2, 5);
        Check.told(x, Check.YEAR, -1, "north 0 0;north 1 0;", 0);
        Check.due("stop", x.stop(0, 0), 2);
        Check.due("cut in a year", x.state(0, 0, 2, 7), 4);
        x.drawn(0, 5, 60, 7);
        x.race(0, 40, 2);
        x.steady(0, 1, true);
        x.rich(0, 0, 3, -1);
        cuts(x, "as told, whatever was asked", 0, false, 0, 3);
        cuts(x, "as told, whatever was asked", 1, false, 2, 5);
        Check.due("as told: thick", x.thick(0), 3);
    }

    private static void safeOnes() {
        Document.says("Term 3", "SAFE ones: those by whose cut nothing is LOST.");
        TwoQuarries x = Check.drawn("......", ".c.c.g", ".m.pcg", "pcgpmc");
        cuts(x, "stacks", 0, false, 7, 9, 11, 13, 16, 20);
        cuts(x, "stacks", 1, false, 7, 9, 11, 13, 16, 17, 20, 23);
        cuts(x, "stacks", 0, true, 7, 9, 11, 16, 20);
        cuts(x, "stacks", 1, true, 7, 9, 11, 16, 20);
        // what is held from aside, prop or stone
        TwoQuarries beam = Check.drawn("cpcc", "c..c");
        cuts(beam, "a beam", 0, true);
        cuts(beam, "a beam", 1, true);
        TwoQuarries held = Check.drawn("ccc", "ccc");
        cuts(held, "left and right stay", 0, false, 0, 3);
        cuts(held, "left and right stay", 0, true, 0);
        TwoQuarries prop = Check.drawn("p..", "c.c");
        cuts(prop, "a prop that would fall", 0, false, 3);
        cuts(prop, "a prop that would fall", 0, true);
        cuts(prop, "a prop that would fall", 1, false, 3, 5);
        cuts(prop, "a prop that would fall", 1, true, 5);
        // between two that stand by themselves what lies on it stays
        TwoQuarries low = Check.drawn("......", ".ccc..", ".cgc..", ".p.p..");
        Check.due("fell between two", low.fell(0, 14), 0);
        cuts(low, "between two", 0, true, 7, 8, 9);
    }

    private static void cutsAsked() {
        Document.says("Promise 11", "CUTS of a SIDE, or (safe) SAFE ones: how many (k NONE), or the k-th CELL,"
                + " numbers rising.");
        TwoQuarries x = Check.drawn("........", "cmgcmgcm", "cmgcmgcm");
        cuts(x, "a row", 0, false, 8, 9, 10, 11, 12, 13, 14, 15, 16);
        cuts(x, "a row", 1, false, 8, 9, 10, 11, 12, 13, 14, 15, 23);
        cuts(x, "a row", 0, true, 8, 9, 10, 11, 12, 13, 14, 15);
        cuts(x, "a row", 1, true, 8, 9, 10, 11, 12, 13, 14, 15);
        TwoQuarries none = Check.drawn("..", "..");
        cuts(none, "none", 0, false);
        cuts(none, "none", 1, true);
    }

    private static void cutsRefused() {
        Document.says("Promise 11", "NONE: not so many, another SIDE, or there is none such.");
        TwoQuarries x = Check.drawn("cc", "cc");
        for (boolean safe : new boolean[] {false, true}) {
            for (int k : new int[] {MIN, -3, -2, safe ? 1 : 2, 3, 47, 48, MAX}) {
                Check.due("cuts, " + k, x.cuts(0, 0, safe, k), -1);
            }
            for (int k = -1; k < 1; k++) {
                for (int side : NO_SIDE) {
                    Check.due("cuts of side " + side, x.cuts(0, side, safe, k), -1);
                }
                for (int hill : NO_HILL) {
                    Check.due("cuts of hill " + hill, x.cuts(hill, 1, safe, k), -1);
                }
            }
        }
    }

    private static void fell() {
        Document.says("Term 3", "FELL of a CELL with a STONE: how many are LOST if it is AIR (whoever can CUT it).");
        TwoQuarries x = Check.drawn("ccccc", "ccmcc", "cgcpc");
        int[] due = {0, 0, 0, 0, 0, 1, 0, 0, 0, 1, 2, 0, 0, -1, 2};
        for (int cell = 0; cell < due.length; cell++) {
            Check.due("fell(0, " + cell + ")", x.fell(0, cell), due[cell]);
        }
        TwoQuarries inside = Check.drawn("pppppp", "ppcppp", "pp.ppp", "pppppp");
        Check.due("a stone that none can cut", inside.fell(0, 8), 0);
        TwoQuarries pillar = Check.drawn("p.p.p", "pccpp", "p.c.p", "p.c.p", "p.c.p", "ppppp");
        Check.due("its stones that none can cut", pillar.cuts(0, 0, false, -1), 0);
        Check.due("a pillar in a cave", pillar.fell(0, 22), 2);
    }

    private static void weak() {
        Document.says("Term 3", "WEAK: the CELL with a STONE of which that is most, of several the least.");
        weakOf(0, 0, "cc.", "ppc");
        weakOf(0, 2, "..m", "p.p");
        weakOf(1, 3, "c.c", "c.c");
        weakOf(1, 4, "c.m.", "cpcp");
        weakOf(1, 3, ".p", ".c");
        weakOf(2, 11, "...c", "c..c", "c..c");
        weakOf(3, 15, "c....", "c.c.c", "c.c.c", "c.ccc");
    }

    /** How many fall by the weak cell, and the cell. */
    private static void weakOf(int most, int cell, String... rows) {
        TwoQuarries x = Check.drawn(rows);
        Check.due("weak of " + String.join("/", rows), x.fell(0, -2), cell);
        Check.due("fell of weak of " + String.join("/", rows), x.fell(0, -1), most);
    }

    private static void fellAsked() {
        Document.says("Promise 12", "FELL of a CELL (0 .. 47), or (cell NONE) of WEAK, or (cell -2) WEAK itself.");
        TwoQuarries x = Check.drawn("cccccccc", "cccccccc", "cccccccc", "cccccccc", "cccccccc", "cccccccc");
        for (int cell = 0; cell < 48; cell++) {
            boolean rim = cell % 8 == 0 || cell % 8 == 7;
            Check.due("fell(0, " + cell + ")", x.fell(0, cell), rim ? cell / 8 : 0);
        }
        Check.due("fell(0, NONE)", x.fell(0, TwoQuarries.NONE), 5);
        Check.due("fell(0, -2)", x.fell(0, -2), 40);
    }

    private static void fellRefused() {
        Document.says("Promise 12", "NONE: no STONE, or there is none such (of either).");
        TwoQuarries x = Check.drawn("c.p", "ccp");
        for (int cell : new int[] {MIN, -4, -3, 1, 2, 5, 6, 7, 47, 48, MAX}) {
            Check.due("fell(0, " + cell + ")", x.fell(0, cell), -1);
        }
        for (int hill : NO_HILL) {
            for (int cell : new int[] {-2, -1, 0, 3}) {
                Check.due("fell(" + hill + ", " + cell + ")", x.fell(hill, cell), -1);
            }
        }
        TwoQuarries none = Check.drawn(".p", ".p");
        for (int cell = -3; cell < 5; cell++) {
            Check.due("fell(0, " + cell + ") without stones", none.fell(0, cell), -1);
        }
    }
}
