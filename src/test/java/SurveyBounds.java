import java.math.BigInteger;
import java.util.Arrays;

/** The edges of promises 15 to 17, 22 to 25 and 31 to 34: what else is asked of a hill as told. */
final class SurveyBounds {
    private static final int MAX = HillBounds.MAX;
    private static final int MIN = HillBounds.MIN;
    private static final String[] WIDEST = {"cccccccc", "cccccccc", "cccccccc", "cccccccc", "cccccccc", "cccccccc"};

    private SurveyBounds() {
    }

    static void tryAll() {
        border();
        borderAsked();
        propped();
        proppedAsked();
        proppedRefused();
        quake();
        quakeAsked();
        path();
        pathAsked();
        caves();
        span();
        mirrored();
        cavesAsked();
        pillars();
        pillarsAsked();
        nearer();
        nearerAsked();
        comes();
        comesAsked();
        crest();
        crestAsked();
        shored();
        shoredAsked();
        streak();
        streakAsked();
    }

    private static String name(String... rows) {
        return String.join("/", rows);
    }

    private static void border(int column, int apart, String... rows) {
        TwoQuarries x = Check.drawn(rows);
        Check.due("border of " + name(rows), x.border(0, false), column);
        Check.due("border of " + name(rows) + ", apart", x.border(0, true), apart);
    }

    private static void border() {
        Document.says("Term 3", "BORDER: the column, 0 to WIDE, ahead of which WORTH of all STONES together differs"
                + " least from that of all others, of several the least; how much.");
        // without stones all columns are alike; with one stone, too, but for how much
        border(0, 0, "..", "..");
        border(0, 0, "........", "pppppppp");
        border(0, 1, "....", "c...");
        border(0, 4, "....", "...m");
        border(0, 2, "..", "g.");
        // the first column that leaves as much on both sides
        border(1, 0, "..", "gg");
        border(1, 0, "......", "c....c");
        border(3, 0, "........", "..c....c");
        border(7, 0, "........", "......cc");
        border(4, 0, WIDEST);
        // two are 1 apart, the least of them is it
        border(2, 1, "....", "cccg");
        border(1, 3, "..", "cm");
        border(1, 3, "..", "mc");
        // all rows together, however high; props are worth nothing
        border(1, 0, "c.", "c.", "c.", "c.", "cm", "cg");
        border(1, 2, "m..", "ccg");
        border(1, 0, "mp", "pm");
        border(1, 0, "gg", "cc");
    }

    private static void borderAsked() {
        Document.says("Promise 15", "BORDER: the column, or (apart) how much. NONE: there is none such.");
        TwoQuarries x = Check.drawn("cc", "cm");
        Check.due("border", x.border(0, false), 1);
        Check.due("border, apart", x.border(0, true), 3);
        for (int hill : HillBounds.NO_HILL) {
            Check.due("border of hill " + hill, x.border(hill, false), -1);
            Check.due("border of hill " + hill + ", apart", x.border(hill, true), -1);
        }
    }

    private static void propped(TwoQuarries x, String name, int cell, int... due) {
        Check.due(name + ": propped(0, " + cell + ")", x.propped(0, cell, -1), due.length);
        for (int k = 0; k < due.length; k++) {
            Check.due(name + ": propped(0, " + cell + "), " + k, x.propped(0, cell, k), due[k]);
        }
        Check.due(name + ": propped, not so many", x.propped(0, cell, due.length), -1);
    }

    private static void propped() {
        Document.says("Term 3", "PROPPED of a CELL with a STONE: the fewest PROPS, 2 at most, on other CELLS that are"
                + " AIR, so that nothing is LOST by its being AIR; the first row of them, rising, by numbers.");
        TwoQuarries none = Check.drawn("ccc", "ccc");
        propped(none, "none is needed", 0);
        propped(none, "none is needed", 4);
        Check.due("not on the cell itself", none.propped(0, 3, -1), -1);
        TwoQuarries one = Check.drawn("cccc", "c..c");
        propped(one, "one below", 0, 5);
        propped(one, "one below", 1, 6);
        propped(one, "one below", 2, 5);
        propped(one, "one below", 3, 6);
        Check.due("not at the rim", one.propped(0, 4, -1), -1);
        // a prop that is itself held from both sides; one that needs another prop below it
        TwoQuarries beam = Check.drawn("ccc.", "c.c.", "c.cc");
        propped(beam, "held from both sides", 2, 5);
        propped(beam, "held from below", 6, 3, 7);
        TwoQuarries first = Check.drawn(".cc", "ccc");
        propped(first, "on the first cell", 4, 0);
        TwoQuarries pillar = Check.drawn(".....", "p.c.p", "p.c.p");
        propped(pillar, "left and right", 12, 6, 8);
        TwoQuarries prop = Check.drawn(".p.", "ccc");
        propped(prop, "a prop as told may not fall", 4, 0, 2);
        TwoQuarries deep = Check.drawn("ccccc", "c...c", "c...c");
        propped(deep, "one on the other", 0, 6, 11);
        TwoQuarries deeper = Check.drawn("ccccc", "c...c", "c...c", "c...c");
        Check.due("not by 2", deeper.propped(0, 0, -1), -1);
        TwoQuarries alone = Check.drawn(".c.", ".c.");
        Check.due("four are too many", alone.propped(0, 4, -1), -1);
    }

    private static void proppedAsked() {
        Document.says("Promise 16", "PROPPED of a CELL: how many (k NONE), or the k-th CELL.");
        TwoQuarries x = Check.drawn("cccc", "c..c", "c..c");
        propped(x, "of several the first", 0, 5, 6);
        propped(x, "of several the first", 1, 5, 6);
        propped(x, "of several the first", 2, 5, 6);
        String[] widest = WIDEST.clone();
        widest[1] = "cc.ccccc";
        widest[2] = "cc.ccccc";
        Check.told(x, Check.HILL, -1, Check.textOf(widest), 1);
        Check.due("the last cell of the widest hill", x.propped(1, 47, -1), -1);
        Check.due("one that bears nothing", x.propped(1, 46, -1), 0);
        Check.due("of the other hill", x.propped(1, 1, -1), 1);
        Check.due("of the other hill, 0", x.propped(1, 1, 0), 10);
    }

    private static void proppedRefused() {
        Document.says("Promise 16", "NONE: not by 2, not so many, no STONE, or there is none such (of either).");
        TwoQuarries x = Check.drawn("pcc.", "p.cc");
        for (int k : new int[] {MIN, -3, -2, 0, 1, 2, MAX}) {
            Check.due("none is needed, " + k, x.propped(0, 7, k), -1);
        }
        for (int k : new int[] {MIN, -3, -2, 1, 2, MAX}) {
            Check.due("one is needed, " + k, x.propped(0, 2, k), -1);
        }
        Check.due("one is needed", x.propped(0, 2, -1), 1);
        Check.due("that one", x.propped(0, 2, 0), 5);
        for (int k = -1; k < 2; k++) {
            Check.due("not by 2, " + k, Check.drawn(".c.", ".c.").propped(0, 4, k), -1);
            for (int cell : new int[] {MIN, -2, -1, 0, 3, 4, 5, 8, 9, 47, 48, MAX}) {
                Check.due("propped(0, " + cell + ", " + k + ")", x.propped(0, cell, k), -1);
            }
            for (int hill : HillBounds.NO_HILL) {
                Check.due("propped of hill " + hill, x.propped(hill, 2, k), -1);
            }
        }
    }

    private static void fraction(TwoQuarries x, String name, int p, long above, long under) {
        Check.due("quake of " + p + ", " + name, x.quake(0, p, false), above);
        Check.due("quake of " + p + ", " + name + ", under", x.quake(0, p, true), under);
    }

    private static void quake() {
        Document.says("Term 3", "QUAKE of p, 0 .. 10: each STONE in the lowest row is AIR by p of ten, by itself,"
                + " then FALL: how many are LOST in the mean (those that the quake takes not counted), a fraction in"
                + " least terms.");
        TwoQuarries column = Check.drawn("c.", "p.", "mp");
        long[][] due = {{0, 1}, {1, 5}, {2, 5}, {3, 5}, {4, 5}, {1, 1}, {6, 5}, {7, 5}, {8, 5}, {9, 5}, {2, 1}};
        for (int p = 0; p <= 10; p++) {
            fraction(column, "two on one", p, due[p][0], due[p][1]);
            fraction(Check.drawn("..", "pc"), "nothing above", p, 0, 1);
            fraction(Check.drawn("cc", "pp"), "no stone in the lowest row", p, 0, 1);
            fraction(Check.drawn("..", ".."), "nothing but air", p, 0, 1);
        }
        for (int wide = 2; wide <= 8; wide++) {
            for (int high = 2; high <= 6; high++) {
                String[] rows = new String[high];
                Arrays.fill(rows, "c".repeat(wide));
                blocks(Check.drawn(rows), wide, high);
            }
        }
    }

    /**
     * All of stone: what the quake takes from an end on is lost with all above it; what it takes between two that stay is
     * bridged. So it is twice the mean row from one end, less the whole row, which is no two rows.
     */
    private static void blocks(TwoQuarries x, int wide, int high) {
        for (int p = 0; p <= 10; p++) {
            long above = 0;
            long under = 1;
            long power = 1;
            for (int k = 1; k <= wide; k++) {
                power *= p;
                under *= 10;
                above = above * 10 + 2 * power;
            }
            above = (above - wide * power) * (high - 1);
            long common = BigInteger.valueOf(above).gcd(BigInteger.valueOf(under)).longValue();
            fraction(x, wide + " by " + high, p, above / common, under / common);
        }
    }

    private static void quakeAsked() {
        Document.says("Promise 17", "QUAKE of p, N, or (under) D. NONE: another p, or there is none such.");
        TwoQuarries x = Check.drawn("cccccccc", "cccccccc");
        fraction(x, "a fraction as long as can be", 1, 11111107, 50000000);
        fraction(x, "a half", 5, 251, 128);
        fraction(x, "all", 10, 8, 1);
        fraction(x, "nothing", 0, 0, 1);
        for (boolean under : new boolean[] {false, true}) {
            for (int p : new int[] {MIN, -2, -1, 11, 12, MAX}) {
                Check.due("quake of " + p, x.quake(0, p, under), -1);
            }
            for (int hill : HillBounds.NO_HILL) {
                Check.due("quake of hill " + hill, x.quake(hill, 5, under), -1);
            }
        }
    }

    private static void path(int due, String... rows) {
        Check.due("path of " + name(rows), Check.drawn(rows).path(0), due);
    }

    private static void path() {
        Document.says("Term 5", "(Of a HILL as told.) PATH: of ways as of THICK that have no more STONES than that:"
                + " the fewest CELLS of one.");
        for (int wide = 2; wide <= 8; wide++) {
            path(wide, "c".repeat(wide), "c".repeat(wide));
            path(wide, ".".repeat(wide), "p".repeat(wide));
        }
        path(13, HillBounds.BENT);
        // the one stone at the beginning, on the way, at its end
        path(3, "c..", "cpp");
        path(3, ".c.", "ppp");
        path(3, "..c", "ppc");
        path(8, ".cc.c.cc", "pppppppp");
        path(8, "c.c.c.c.", "pppppppp");
        // more cells, as that saves a stone; of as many stones the fewer cells
        path(7, "p...p", "p...p", "ccccc");
        path(5, "p...p", "p...p", "cc.cc");
        path(7, "cp...", "cpcp.", "c.cp.");
        // a stone next to the first cell counts as any other, also where it saves cells
        path(7, "p...p", "c.ccc");
        path(7, "p...p", "ccc.c");
        path(6, "pcccc", "c...p");
        path(6, "ccccp", "p...c");
    }

    private static void pathAsked() {
        Document.says("Promise 22", "PATH. NONE: there is no way, or there is none such.");
        TwoQuarries x = Check.drawn("cc", "cc");
        Check.told(x, Check.HILL, -1, Check.textOf("cpc", "cpc"), 1);
        Check.due("path", x.path(0), 2);
        Check.due("no way", x.path(1), -1);
        Check.told(x, Check.HILL, 1, Check.textOf(HillBounds.BENT), 1);
        Check.told(x, Check.HILL, 0, Check.textOf("p...p", "p...p", "ccccc"), 0);
        for (int round = 0; round < 3; round++) {
            Check.due("a long path", x.path(1), 13);
            Check.due("a short path", x.path(0), 7);
        }
        for (int hill : new int[] {MIN, -2, -1, 2, 3, MAX}) {
            Check.due("path of hill " + hill, x.path(hill), -1);
        }
    }

    private static void caves(int many, int largest, int span, boolean mirrored, String... rows) {
        TwoQuarries x = Check.drawn(rows);
        int[] due = {many, largest, span, mirrored ? 1 : 0};
        for (int what = 0; what < 4; what++) {
            Check.due("caves of " + name(rows) + ", " + what, x.caves(0, what), due[what]);
        }
    }

    private static void caves() {
        Document.says("Term 5", "CAVES: parts of AIR CELLS that are joined (up, right, down, left): how many; how"
                + " many CELLS the largest has.");
        caves(0, 0, 0, true, WIDEST);
        caves(1, 48, 8, true, "........", "........", "........", "........", "........", "........");
        caves(1, 1, 1, false, ".c", "cc");
        caves(4, 1, 1, false, ".c.c.c.c", "cccccccc");
        // joined downwards from the top row, and shut in
        caves(1, 9, 6, false, "......", ".cc.c.");
        caves(2, 3, 2, false, "cccccc", "c..c.c", "c.cccc");
        caves(3, 2, 2, true, "c.cccc.c", "ccc..ccc");
        for (int wide = 3; wide <= 8; wide++) {
            // a row's end is not joined to the next row's beginning
            String full = "c".repeat(wide - 2);
            caves(2, 2, 1, false, "." + full + ".", "." + full + "c");
        }
    }

    private static void span() {
        Document.says("Term 5", "SPAN: the most AIR CELLS next to one another in one row.");
        for (int wide = 2; wide <= 8; wide++) {
            String full = "c".repeat(wide);
            caves(1, wide, wide, true, ".".repeat(wide), full);
            caves(1, wide - 1, wide - 1, false, "c" + ".".repeat(wide - 1), full);
            caves(1, wide - 1, wide - 1, false, ".".repeat(wide - 1) + "p", full);
        }
        // the longest of several, in whichever row; not on over a row's end
        caves(3, 3, 3, false, ".c..c...", "cccccccc");
        caves(2, 4, 2, false, "..cccc..", "..cccccc");
        caves(2, 4, 4, false, "cccccccc", "cc....cc", "cccccccc", "cccc.ccc");
    }

    private static void mirrored() {
        Document.says("Term 5", "MIRRORED: if its KINDS are alike when left and right are changed about.");
        for (char left : ".cmgp".toCharArray()) {
            for (char right : ".cmgp".toCharArray()) {
                int due = left == right ? 1 : 0;
                Check.due("outer " + left + right, Check.drawn(left + "mm" + right, "pppp").caves(0, 3), due);
                Check.due("inner " + left + right, Check.drawn("c" + left + "g" + right + "c", "ccccc").caves(0, 3), due);
                Check.due("lowest " + left + right, Check.drawn("..", "" + left + right).caves(0, 3), due);
            }
        }
        Check.due("all rows of a high hill", Check.drawn("..", "..", "..", "..", "..", "cp").caves(0, 3), 0);
        Check.due("rows are not changed about", Check.drawn("mcm", "cmc").caves(0, 3), 1);
    }

    private static void cavesAsked() {
        Document.says("Promise 23", "What 0: CAVES, 1: the largest, 2: SPAN, 3: 1 if it is MIRRORED, else 0. NONE:"
                + " there is none such, or for another what.");
        caves(2, 3, 2, false, "..cc.", ".cccc");
        TwoQuarries x = Check.drawn("..", "cc");
        for (int what : new int[] {MIN, -2, -1, 4, 5, 100, MAX}) {
            Check.due("caves, " + what, x.caves(0, what), -1);
        }
        for (int hill : HillBounds.NO_HILL) {
            for (int what = 0; what < 4; what++) {
                Check.due("caves of hill " + hill, x.caves(hill, what), -1);
            }
        }
    }

    private static void pillars() {
        Document.says("Term 5", "PILLARS of n, 0 .. 48: how many STONES there are of which FELL is n or more.");
        TwoQuarries x = Check.drawn(WIDEST);
        // of each row the outer two bear those above them
        int[] due = {48, 10, 8, 6, 4, 2};
        for (int n = 0; n <= 48; n++) {
            Check.due("pillars of " + n, x.pillars(0, n), n < due.length ? due[n] : 0);
        }
        TwoQuarries props = Check.drawn("p.m", "c.p", "pcg");
        int[] few = {4, 2, 1, 0};
        for (int n = 0; n < few.length; n++) {
            Check.due("pillars among props of " + n, props.pillars(0, n), few[n]);
        }
    }

    private static void pillarsAsked() {
        Document.says("Promise 24", "PILLARS of n. NONE: another n, or there is none such.");
        TwoQuarries x = Check.drawn("cc", "cc");
        for (int n : new int[] {MIN, -2, -1, 49, 50, MAX}) {
            Check.due("pillars of " + n, x.pillars(0, n), -1);
        }
        for (int n : new int[] {0, 1, 2, 48}) {
            Check.due("pillars of " + n, x.pillars(0, n), n == 0 ? 4 : n == 1 ? 2 : 0);
            Check.due("pillars of " + n + " without stones", Check.drawn(".p", ".p").pillars(0, n), 0);
            for (int hill : HillBounds.NO_HILL) {
                Check.due("pillars of hill " + hill, x.pillars(hill, n), -1);
            }
        }
    }

    private static void nearer(int north, int south, String... rows) {
        TwoQuarries x = Check.drawn(rows);
        Check.due("nearer of north, " + name(rows), x.nearer(0, 0), north);
        Check.due("nearer of south, " + name(rows), x.nearer(0, 1), south);
    }

    private static void nearer() {
        Document.says("Term 5", "NEARER of a SIDE: WORTH of STONES to which it comes by fewer STONES (that one"
                + " counted, too) than the other SIDE does (by ways as of THICK, from its own outermost column),"
                + " together; a SIDE that does not come to it at all comes by more than any.");
        for (int wide = 2; wide <= 8; wide++) {
            String full = "g".repeat(wide);
            // of an odd row the middle one is as near to both
            nearer(wide / 2 * 4, wide / 2 * 4, full, full);
            nearer(0, 0, ".".repeat(wide), full);
        }
        nearer(0, 0, "...", "pmp");
        nearer(3, 5, "cpc", "gpm");
        nearer(5, 5, "..p...", "cmpgcg");
        // of the props' side all is the other's; shut in, it is nobody's
        nearer(6, 0, "cmp", "cpp");
        nearer(0, 6, "pmc", "ppc");
        nearer(0, 0, "ppppp", "ppmpp", "ppppp");
        // behind a stone, too, a prop lets nobody through: the other side's second and third stay its own
        nearer(1, 9, "cpmmc", "ppppp");
        nearer(9, 1, "cmmpc", "ppppp");
    }

    private static void nearerAsked() {
        Document.says("Promise 25", "NEARER of a SIDE. NONE: another SIDE, or there is none such.");
        TwoQuarries x = Check.drawn("cm", "cc");
        Check.due("nearer of north", x.nearer(0, 0), 2);
        Check.due("nearer of south", x.nearer(0, 1), 5);
        for (int side : HillBounds.NO_SIDE) {
            Check.due("nearer of side " + side, x.nearer(0, side), -1);
        }
        for (int hill : HillBounds.NO_HILL) {
            Check.due("nearer of hill " + hill, x.nearer(hill, 0), -1);
        }
    }

    private static void comes(TwoQuarries x, int side, int... due) {
        for (int cell = 0; cell < due.length; cell++) {
            Check.due("comes of side " + side + " to " + cell, x.comes(0, side, cell), due[cell]);
        }
    }

    private static void comes() {
        Document.says("Term 6", "(Of a HILL as told.) COMES of a SIDE to a CELL: the fewest STONES (that CELL's, too)"
                + " on a way, as of THICK, from its outermost column.");
        TwoQuarries bent = Check.drawn(HillBounds.BENT);
        comes(bent, 0, -1, 3, 3, 3, 3, -1, 3, -1, -1, -1, -1, 2, 2, 2, -1, -1, -1, -1, 2, -1, 1, 1, 1, 1, -1);
        comes(bent, 1, -1, 0, 0, 0, 0, -1, 1, -1, -1, -1, -1, 1, 1, 1, -1, -1, -1, -1, 2, -1, 3, 2, 2, 2, -1);
        TwoQuarries full = Check.drawn(WIDEST);
        for (int cell = 0; cell < 48; cell++) {
            Check.due("comes of north to " + cell, full.comes(0, 0, cell), cell % 8 + 1);
            Check.due("comes of south to " + cell, full.comes(0, 1, cell), 8 - cell % 8);
        }
        // by air round a stone; to its own column: that cell alone
        comes(Check.drawn("....", ".cmg"), 0, 0, 0, 0, 0, 0, 1, 1, 1);
        comes(Check.drawn("c...", "mcpg"), 0, 1, 1, 1, 1, 1, 2, -1, 2);
        comes(Check.drawn("c...", "mcpg"), 1, 1, 0, 0, 0, 2, 1, -1, 1);
        comes(Check.drawn("ppp", "pmp", "ppp"), 0, -1, -1, -1, -1, -1, -1, -1, -1, -1);
    }

    private static void comesAsked() {
        Document.says("Promise 31", "COMES. NONE: it does not, another SIDE, or there is none such (of either).");
        TwoQuarries x = Check.drawn("cpm", "cpg");
        comes(x, 0, 1, -1, -1, 1, -1, -1);
        comes(x, 1, -1, -1, 1, -1, -1, 1);
        for (int cell : new int[] {MIN, -2, -1, 6, 7, 8, 47, 48, MAX}) {
            Check.due("comes to " + cell, x.comes(0, 0, cell), -1);
        }
        for (int side : HillBounds.NO_SIDE) {
            Check.due("comes of side " + side, x.comes(0, side, 0), -1);
        }
        for (int hill : HillBounds.NO_HILL) {
            Check.due("comes in hill " + hill, x.comes(hill, 0, 0), -1);
        }
    }

    private static void crest(int row, int worth, String... rows) {
        TwoQuarries x = Check.drawn(rows);
        Check.due("crest of " + name(rows), x.crest(0, false), row);
        Check.due("crest of " + name(rows) + ", worth", x.crest(0, true), worth);
    }

    private static void crest() {
        Document.says("Term 6", "CREST: the row whose STONES are WORTH most together, of several the least; how much.");
        crest(0, 0, "..", "pp");
        crest(0, 8, WIDEST);
        crest(5, 9, "cccccccc", "cccccccc", "cccccccc", "cccccccc", "cccccccc", "cccccccg");
        crest(5, 3, "..", "..", "..", "..", "cc", "cg");
        crest(1, 4, ".....", "....m", "cccpp", "ggppp");
        crest(1, 5, "cccc", "ppcm", "cppg");
        crest(0, 32, "mmmmmmmm", "gggggggg");
    }

    private static void crestAsked() {
        Document.says("Promise 32", "CREST: the row, or (worth) how much. NONE: there is none such.");
        TwoQuarries x = Check.drawn("cc", "gm");
        Check.due("crest", x.crest(0, false), 1);
        Check.due("crest, worth", x.crest(0, true), 6);
        for (int hill : HillBounds.NO_HILL) {
            Check.due("crest of hill " + hill, x.crest(hill, false), -1);
            Check.due("crest of hill " + hill + ", worth", x.crest(hill, true), -1);
        }
    }

    private static void shored(TwoQuarries x, String name, int n, int safe, int... due) {
        Check.due(name + ": shored by " + n, x.shored(0, n, -1), safe);
        for (int k = 0; k < due.length; k++) {
            Check.due(name + ": shored by " + n + ", " + k, x.shored(0, n, k), due[k]);
        }
        Check.due(name + ": shored by " + n + ", not so many", x.shored(0, n, due.length), -1);
    }

    private static void shored() {
        Document.says("Term 6", "SHORED of n, 0 .. 2: n PROPS on CELLS that are AIR, where they STAND, put together,"
                + " so that SAFE ones of both SIDES (each counted by itself) are most: how many; the first row of"
                + " them, rising, by numbers.");
        // without props a beam's ends are not safe; one prop below makes them so
        TwoQuarries beam = Check.drawn("ccc", "c.c");
        shored(beam, "beam", 0, 0);
        shored(beam, "beam", 1, 2, 4);
        TwoQuarries longer = Check.drawn("ccccc", "c.c.c");
        shored(longer, "longer", 0, 0);
        shored(longer, "longer", 1, 1, 6);
        shored(longer, "longer", 2, 2, 6, 8);
        // a stone that both can cut counts for each; a prop in the way, not for all
        TwoQuarries both = Check.drawn("...", "pcp");
        shored(both, "both", 0, 2);
        shored(both, "both", 1, 1, 0);
        shored(both, "both", 2, 0, 0, 1);
        // where they stand: not in the air, but one on the other, or two that hold one another
        TwoQuarries air = Check.drawn("..", "..");
        shored(air, "air", 1, 0, 2);
        shored(air, "air", 2, 0, 0, 2);
        TwoQuarries gap = Check.drawn("p..p", "p..p");
        shored(gap, "gap", 1, 0, 5);
        shored(gap, "gap", 2, 0, 1, 2);
        TwoQuarries narrow = Check.drawn("c..c", "c..c");
        shored(narrow, "narrow", 2, 2, 1, 5);
    }

    private static void shoredAsked() {
        Document.says("Promise 33", "SHORED of n: how many (k NONE), or the k-th CELL. NONE: not so many CELLS that"
                + " are AIR where they STAND, not so many, another n, or there is none such.");
        TwoQuarries x = Check.drawn("cccc", "cc.c");
        shored(x, "one cell of air", 0, 1);
        shored(x, "one cell of air", 1, 2, 6);
        TwoQuarries full = Check.drawn("cc", "cc");
        shored(full, "no air", 0, 2);
        for (int k : new int[] {MIN, -2, -1, 0, 1, 2, MAX}) {
            Check.due("one cell of air, by 2, " + k, x.shored(0, 2, k), -1);
            Check.due("no air, by 1, " + k, full.shored(0, 1, k), -1);
            Check.due("no air, by 2, " + k, full.shored(0, 2, k), -1);
            for (int n : new int[] {MIN, -2, -1, 3, 4, MAX}) {
                Check.due("shored by " + n, x.shored(0, n, k), -1);
            }
            for (int hill : HillBounds.NO_HILL) {
                Check.due("shored in hill " + hill, x.shored(hill, 0, k), -1);
            }
            if (k < -1 || k > 0) {
                Check.due("shored by 1, " + k, x.shored(0, 1, k), -1);
            }
        }
    }

    private static void streak(int north, int south, String... rows) {
        TwoQuarries x = Check.drawn(rows);
        Check.due("streak of north, " + name(rows), x.streak(0, 0), north);
        Check.due("streak of south, " + name(rows), x.streak(0, 1), south);
    }

    private static void streak() {
        Document.says("Term 6", "STREAK of a SIDE: the most SAFE ones of it that are next to one another in one row.");
        for (int wide = 2; wide <= 8; wide++) {
            streak(wide, wide, ".".repeat(wide), "g".repeat(wide));
            // a row's end is not next to the next row's beginning
            streak(1, 1, ".".repeat(wide - 1) + "c", "c" + ".".repeat(wide - 2) + "p");
        }
        streak(4, 4, "....", "cmgc");
        streak(2, 4, "..p....", "ccpcccc");
        streak(0, 0, "pp", "pp");
        streak(0, 0, "cpcc", "c..c");
        // a cut that is not safe parts them
        streak(3, 3, "......", "..c...", "cccccc");
        streak(1, 1, "cccccc", "cccccc");
    }

    private static void streakAsked() {
        Document.says("Promise 34", "STREAK of a SIDE. NONE: another SIDE, or there is none such.");
        TwoQuarries x = Check.drawn("..p", "ccp");
        Check.due("streak of north", x.streak(0, 0), 2);
        Check.due("streak of south", x.streak(0, 1), 0);
        for (int side : HillBounds.NO_SIDE) {
            Check.due("streak of side " + side, x.streak(0, side), -1);
        }
        for (int hill : HillBounds.NO_HILL) {
            Check.due("streak of hill " + hill, x.streak(hill, 0), -1);
        }
    }
}
