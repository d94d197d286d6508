/** The edges of promises 7 to 9, 21 and 28, and of what term 2 says of years: deed, stop, state, drawn, after. */
final class YearBounds {
    private static final int MAX = HillBounds.MAX;
    private static final int MIN = HillBounds.MIN;
    private static final int[] SEEDS = {0, 1, -1, 2, 99, 12345, -12345, 65535, 65536, MAX, MIN, MAX - 1, MIN + 1};

    /** A way through all of it that takes 23 stones, and more than 20 with two of them air. */
    private static final String[] LONG_WAY = {
        "cpcccpcc", "cpcpcpcp", "cpcpcpcp", "cpcpcpcp", "cpcpcpcp", "cccpcccp"};

    private YearBounds() {
    }

    static void tryAll() {
        beginsAsTold();
        cut();
        shoreUp();
        knock();
        cannotBe();
        stop();
        stopRefused();
        states();
        deedAsked();
        deedRefused();
        stateAsked();
        stateRefused();
        eyeAndWorst();
        afterAsked();
        drawnNumbers();
        drawnCuts();
        drawnProps();
        drawnRefused();
    }

    private static TwoQuarries at(String year, String... rows) {
        TwoQuarries x = Check.drawn(rows);
        Check.told(x, Check.YEAR, -1, year, 0);
        return x;
    }

    /** What is due of a state: worth, worth, blows, blows, lost, thick, heard, stones. */
    private static void state(TwoQuarries x, int n, int... due) {
        for (int what = 0; what < due.length; what++) {
            Check.due("state behind " + n + ", " + what, x.state(0, 0, n, what), due[what]);
        }
    }

    private static void kinds(TwoQuarries x, int n, String due) {
        for (int cell = 0; cell < due.length(); cell++) {
            int kind = ".cmgp".indexOf(due.charAt(cell));
            Check.due("state behind " + n + ", cell " + cell, x.state(0, 0, n, 100 + cell), kind);
        }
        Check.due("state behind " + n + ", no cell " + due.length(), x.state(0, 0, n, 100 + due.length()), -2);
    }

    private static void beginsAsTold() {
        Document.says("Term 2", "A YEAR of a HILL begins with all as told.");
        TwoQuarries x = at("north 0 0;", "cmg", "pcc");
        Check.told(x, Check.YEAR, -1, "south 2 0;knock 3;", 1);
        Check.told(x, Check.HILL, -1, Check.textOf("mm", "mm"), 1);
        for (int round = 0; round < 2; round++) {
            state(x, 0, 0, 0, 0, 0, 0, 3, 0, 5);
            kinds(x, 0, "cmgpcc");
            state(x, 1, 1, 0, 1, 0, 0, 2, 0, 4);
            Check.due("the other year has its own state", x.state(0, 1, 1, 1), 2);
            Check.due("nothing of the first year in it", x.state(0, 1, 1, 100), 1);
            Check.due("the other hill, too", x.state(1, 0, 1, 0), 4);
            Check.due("the hill is as told", x.hill(0, 100), 1);
        }
    }

    private static void cut() {
        Document.says("Term 2", "north, south: that SIDE, who can CUT it, cuts the STONE in a CELL: its WORTH is his,"
                + " its BLOWS he strikes; it is AIR; then FALL.");
        int[] worth = {1, 4, 2};
        for (int kind = 0; kind < 3; kind++) {
            String stone = "" + "cmg".charAt(kind);
            TwoQuarries north = at("north 0 0;", stone + "p", "pp");
            state(north, 1, worth[kind], 0, kind + 1, 0, 0, -1, 0, 0);
            kinds(north, 1, ".ppp");
            TwoQuarries south = at("south 1 1;", "pp", "p" + stone);
            state(south, 1, 0, worth[kind], 0, kind + 1, 1, -1, 0, 0);
            kinds(south, 1, "p.p.");
        }
        // what falls is nobody's, and no blow is struck for it
        TwoQuarries tower = at("south 1 5;", ".m", ".m", ".p", ".g", ".c", "cc");
        state(tower, 1, 0, 1, 0, 1, 5, 0, 0, 1);
        kinds(tower, 1, "..........c.");
        // all of a side's cuts together; where both can cut, it is his whose deed it is
        TwoQuarries both = at("north 1 1;south 0 1;north 2 1;", "...", "cmg");
        state(both, 1, 4, 0, 2, 0, 0, 0, 0, 2);
        state(both, 2, 4, 1, 2, 1, 0, 0, 0, 1);
        state(both, 3, 6, 1, 5, 1, 0, 0, 0, 0);
    }

    private static void shoreUp() {
        Document.says("Term 2", "prop: a CELL that is AIR becomes a PROP.");
        // wherever it is, also where it does not stand: it falls behind the next cut
        TwoQuarries x = at("prop 0 0;prop 2 0;prop 2 1;south 1 1;", "...", ".g.");
        state(x, 3, 0, 0, 0, 0, 0, -1, 0, 1);
        kinds(x, 3, "p.p.gp");
        Check.due("a prop shuts south's column", x.stop(0, 0), 3);
        TwoQuarries falls = at("prop 0 0;prop 0 1;prop 1 0;knock 20;north 1 1;prop 1 1;", "...", ".cp");
        Check.due("not reached behind the props", falls.stop(0, 0), 4);
        TwoQuarries floats = at("prop 0 0;knock 3;prop 2 0;north 0 2;prop 0 0;", "...", "..p", "c.p");
        state(floats, 3, 0, 0, 0, 0, 0, -1, 1, 1);
        kinds(floats, 3, "p.p..pc.p");
        state(floats, 4, 1, 0, 1, 0, 1, -1, 1, 0);
        kinds(floats, 4, "..p..p..p");
        // where a stone was cut, or a prop fell, is air again
        kinds(floats, 5, "p.p..p..p");
        TwoQuarries bears = at("prop 1 1;north 0 0;", "ccc", "c.c");
        state(bears, 2, 1, 0, 1, 0, 0, 2, 0, 4);
    }

    private static void knock() {
        Document.says("Term 2", "knock: it is HEARD, if THICK is that number or less (not NONE).");
        for (int wide = 2; wide <= 8; wide++) {
            StringBuilder year = new StringBuilder();
            for (int number = 0; number <= 20; number++) {
                year.append("knock ").append(number).append(';');
            }
            TwoQuarries x = at(year.toString(), "c".repeat(wide), "c".repeat(wide));
            for (int n = 0; n <= 21; n++) {
                Check.due("heard by " + n + " knocks, thick " + wide, x.state(0, 0, n, 6), Math.max(0, n - wide));
            }
        }
        TwoQuarries air = at("knock 0;knock 1;knock 20;", "..", "cc");
        state(air, 3, 0, 0, 0, 0, 0, 0, 3, 2);
        TwoQuarries none = at("knock 0;knock 20;", "cp", "cp");
        state(none, 2, 0, 0, 0, 0, 0, -1, 0, 2);
        TwoQuarries far = at("knock 20;", LONG_WAY);
        Check.due("a way of 23 stones", far.thick(0), 23);
        Check.due("not heard by 20", far.state(0, 0, 1, 6), 0);
        Check.told(far, Check.HILL, 0, Check.textOf(LONG_WAY) + "air 3 0;air 7 0;", 0);
        Check.due("a way of 21 stones", far.thick(0), 21);
        Check.due("not heard by 20, either", far.state(0, 0, 1, 6), 0);
        Check.told(far, Check.HILL, 0, Check.textOf(LONG_WAY) + "air 3 0;air 7 0;air 2 0;", 0);
        Check.due("a way of 20 stones", far.thick(0), 20);
        Check.due("heard by 20", far.state(0, 0, 1, 6), 1);
    }

    /** A deed that can't be, between two that can. */
    private static void cannot(String deed, String... rows) {
        TwoQuarries x = at("knock 9;" + deed + "knock 9;", rows);
        Check.due("stop at '" + deed + "' of " + String.join("/", rows), x.stop(0, 0), 1);
        Check.due("no state behind it", x.state(0, 0, 2, 7), -2);
        Check.told(x, Check.YEAR, 0, deed, 0);
        Check.due("stop at the first deed", x.stop(0, 0), 0);
        Check.due("the state ahead of it", x.state(0, 0, 0, 0), 0);
        Check.due("no state behind the first deed", x.state(0, 0, 1, 0), -2);
    }

    private static void can(String deed, String... rows) {
        TwoQuarries x = at("knock 9;" + deed + "knock 9;", rows);
        Check.due("no stop at '" + deed + "' of " + String.join("/", rows), x.stop(0, 0), 3);
    }

    private static void cannotBe() {
        Document.says("Term 2", "A DEED can't be, if there is no such CELL, or it is not as said.");
        for (String word : new String[] {"north", "south", "prop"}) {
            for (int wide = 2; wide <= 7; wide++) {
                cannot(word + " " + wide + " 1;", ".".repeat(wide), "c".repeat(wide));
                cannot(word + " 7 1;", ".".repeat(wide), "c".repeat(wide));
            }
            cannot(word + " 0 2;", "..", "cc");
            cannot(word + " 0 5;", "..", "cc");
            cannot(word + " 0 5;", "..", "..", "..", "..", "cc");
        }
        for (String word : new String[] {"north", "south"}) {
            // air, a prop, and a stone that is not next to what it has reached
            cannot(word + " 0 0;", "..", "cc");
            cannot(word + " 0 0;", "p.", "cc");
            cannot(word + " 1 0;", "cgc", "ccc");
            can(word + " 0 1;", "..", "cc");
            can(word + " 7 5;", "........", "........", "........", "........", "........", "cccccccc");
        }
        cannot("north 2 0;", "cgc", "ccc");
        cannot("south 0 0;", "cgc", "ccc");
        can("north 0 1;", "cgc", "ccc");
        can("south 2 1;", "cgc", "ccc");
        for (char kind : "cmgp".toCharArray()) {
            cannot("prop 0 0;", kind + ".", "pp");
        }
        can("prop 1 0;", "c.", "pp");
        can("prop 0 0;", "........", "........", "........", "........", "........", "........");
        can("prop 7 5;", "........", "........", "........", "........", "........", "........");
        for (int number = 0; number <= 20; number++) {
            can("knock " + number + ";", "pp", "pp");
        }
    }

    private static void stop() {
        Document.says("Term 2", "STOP: the first DEED that can't be, else how many there are.");
        for (int many : new int[] {0, 1, 2, 39, 40}) {
            TwoQuarries x = at("knock 1;".repeat(many), "cc", "cc");
            Check.due("stop of " + many, x.stop(0, 0), many);
            Check.due("state behind all", x.state(0, 0, many, 7), 4);
            Check.due("no state behind more", x.state(0, 0, many + 1, 7), -2);
        }
        TwoQuarries last = at("knock 1;".repeat(39) + "prop 0 0;", "cc", "cc");
        Check.due("stop at the last deed", last.stop(0, 0), 39);
        TwoQuarries two = at("north 0 0;north 0 0;prop 0 0;prop 0 0;", "cc", "cc");
        Check.due("stop at the first of two that can't be", two.stop(0, 0), 1);
        TwoQuarries opens = at("north 0 0;north 1 0;south 1 1;north 0 1;", "cc", "cc");
        Check.due("what was opened can be cut", opens.stop(0, 0), 4);
        TwoQuarries shuts = at("prop 0 1;north 1 1;", "...", ".cc");
        Check.due("air above is enough", shuts.stop(0, 0), 2);
        TwoQuarries shut = at("prop 0 1;prop 0 0;north 1 1;", "...", ".cc");
        Check.due("a prop shuts what was open", shut.stop(0, 0), 2);
    }

    private static void stopRefused() {
        Document.says("Promise 8", "STOP. NONE: there is none such (of either).");
        TwoQuarries x = at("knock 1;", "cc", "cc");
        Check.due("stop", x.stop(0, 0), 1);
        for (int none : HillBounds.NO_HILL) {
            Check.due("stop of hill " + none, x.stop(none, 0), -1);
            Check.due("stop of year " + none, x.stop(0, none), -1);
            Check.due("stop of hill and year " + none, x.stop(none, none), -1);
        }
    }

    private static void states() {
        Document.says("Term 2", "A STATE is behind the first n DEEDS, n up to STOP.");
        TwoQuarries x = at("north 0 0;north 1 0;north 7 5;north 0 1;", "mgc", "ccc");
        state(x, 0, 0, 0, 0, 0, 0, 3, 0, 6);
        state(x, 1, 4, 0, 2, 0, 0, 2, 0, 5);
        state(x, 2, 6, 0, 5, 0, 0, 1, 0, 4);
        state(x, 3, -2, -2, -2, -2, -2, -2, -2, -2);
        state(x, 4, -2, -2, -2, -2, -2, -2, -2, -2);
        // asked in any order
        state(x, 0, 0, 0, 0, 0, 0, 3, 0, 6);
        state(x, 2, 6, 0, 5, 0, 0, 1, 0, 4);
    }

    private static void deedAsked() {
        Document.says("Promise 7", "How many DEEDS (k NONE, what 0); of DEED k, what 0: 0 north, 1 south, 2 prop, 3"
                + " knock, 1, 2: its numbers (2 NONE of knock).");
        TwoQuarries x = new TwoQuarries();
        Check.told(x, Check.YEAR, -1, "north 0 1;south 7 5;prop 3 0;knock 20;knock 0;", 0);
        Check.told(x, Check.YEAR, -1, "", 1);
        int[][] due = {{0, 0, 1}, {1, 7, 5}, {2, 3, 0}, {3, 20, -1}, {3, 0, -1}};
        Check.due("how many deeds", x.deed(0, -1, 0), 5);
        Check.due("no deeds", x.deed(1, -1, 0), 0);
        for (int k = 0; k < due.length; k++) {
            for (int what = 0; what < 3; what++) {
                Check.due("deed " + k + ", " + what, x.deed(0, k, what), due[k][what]);
                Check.due("deed " + k + " of none, " + what, x.deed(1, k, what), -2);
            }
        }
    }

    private static void deedRefused() {
        Document.says("Promise 7", "-2: there is none such (of either), or for another what.");
        TwoQuarries x = new TwoQuarries();
        Check.told(x, Check.YEAR, -1, "north 0 1;knock 1;", 0);
        for (int what : new int[] {MIN, -2, -1, 3, 4, 100, MAX}) {
            Check.due("how many deeds, " + what, x.deed(0, -1, what), -2);
            Check.due("deed 0, " + what, x.deed(0, 0, what), -2);
            Check.due("deed 1, " + what, x.deed(0, 1, what), -2);
        }
        Check.due("how many deeds, 1", x.deed(0, -1, 1), -2);
        Check.due("how many deeds, 2", x.deed(0, -1, 2), -2);
        for (int what = 0; what < 3; what++) {
            for (int k : new int[] {MIN, -3, -2, 2, 3, 39, 40, MAX}) {
                Check.due("deed " + k + ", " + what, x.deed(0, k, what), -2);
            }
            for (int year : HillBounds.NO_HILL) {
                Check.due("deed 0 of year " + year, x.deed(year, 0, what), -2);
                Check.due("how many deeds of year " + year, x.deed(year, -1, what), -2);
            }
        }
    }

    private static void stateAsked() {
        Document.says("Promise 9", "Of a STATE, what 0, 1: WORTH of NORTH, of SOUTH, 2, 3: BLOWS of theirs, 4: LOST,"
                + " 5: THICK (NONE), 6: how many knocks were HEARD, 7: STONES that are left, 100 + c: KIND of a CELL.");
        // north cuts marble, a granite is lost; south cuts granite; north's prop shuts the way
        TwoQuarries x = at("north 0 1;knock 1;south 2 0;knock 1;knock 0;prop 0 0;prop 0 1;knock 20;", "gcg", "mpp");
        state(x, 0, 0, 0, 0, 0, 0, 3, 0, 4);
        state(x, 1, 4, 0, 2, 0, 1, 2, 0, 2);
        state(x, 2, 4, 0, 2, 0, 1, 2, 0, 2);
        state(x, 3, 4, 2, 2, 3, 1, 1, 0, 1);
        state(x, 5, 4, 2, 2, 3, 1, 1, 1, 1);
        state(x, 6, 4, 2, 2, 3, 1, -1, 1, 1);
        state(x, 8, 4, 2, 2, 3, 1, -1, 1, 1);
        kinds(x, 0, "gcgmpp");
        kinds(x, 1, ".cg.pp");
        kinds(x, 5, ".c..pp");
        kinds(x, 8, "pc.ppp");
        TwoQuarries widest = at("south 7 5;", "cccccccc", "cccccccc", "cccccccc", "cccccccc", "cccccccc", "cccccccc");
        state(widest, 1, 0, 1, 0, 1, 5, 7, 0, 42);
        kinds(widest, 1, "ccccccc.".repeat(6));
    }

    private static void stateRefused() {
        Document.says("Promise 9", "-2: there is no such STATE, or for another what.");
        TwoQuarries x = at("north 0 0;", "cc", "cc");
        for (int what : new int[] {MIN, -101, -2, -1, 8, 9, 50, 99, 104, 105, 147, 148, MAX}) {
            Check.due("state, " + what, x.state(0, 0, 1, what), -2);
        }
        for (int what : new int[] {0, 4, 5, 7, 100, 103}) {
            for (int n : new int[] {MIN, -2, -1, 2, 3, 40, 41, MAX}) {
                Check.due("state behind " + n, x.state(0, 0, n, what), -2);
            }
            for (int none : HillBounds.NO_HILL) {
                Check.due("state in hill " + none, x.state(none, 0, 0, what), -2);
                Check.due("state of year " + none, x.state(0, none, 0, what), -2);
            }
        }
    }

    private static void after(TwoQuarries x, String name, int eye, int worst, int many) {
        int[] due = {eye, worst, many};
        for (int what = 0; what < 3; what++) {
            Check.due(name + ": after, " + what, x.after(0, 0, what), due[what]);
        }
    }

    private static void eyeAndWorst() {
        Document.says("Term 5", "Of a YEAR in a HILL, behind all DEEDS up to STOP: EYE: the least n of a STATE in"
                + " which it is THROUGH; WORST: the DEED (from 0 on) by which most were LOST, of several the first"
                + " (none was: none); how many by that one.");
        after(at("", "cc", "cc"), "no deeds", -1, -1, 0);
        after(at("", "..", "cc"), "through at first", 0, -1, 0);
        after(at("prop 0 0;prop 1 0;", "..", "pp"), "through at first, not later", 0, -1, 0);
        after(at("north 0 0;", "c.", "cc"), "through by the only deed", 1, -1, 0);
        after(at("north 0 0;south 1 0;knock 1;", "cc", "cc"), "through by the second deed", 2, -1, 0);
        after(at("knock 0;".repeat(39) + "north 0 0;", "c.", "cc"), "through by deed 39", 40, -1, 0);
        // no deed behind the last one
        after(at("", "c.", "cc"), "nothing is done", -1, -1, 0);
        TwoQuarries two = at("south 4 1;", "c...c", "cpppc");
        Check.told(two, Check.YEAR, -1, "knock 1;north 0 0;", 1);
        int[] calm = {2, -1, 0};
        for (int what = 0; what < 3; what++) {
            Check.due("one is lost in year 0", two.after(0, 0, 2), 1);
            Check.due("none is lost in year 1: after, " + what, two.after(0, 1, what), what == 0 ? -1 : calm[what]);
        }
        // what comes at the stop and behind it does not count
        after(at("north 0 0;prop 0 1;south 1 0;", "cc", "cc"), "stopped ahead", -1, -1, 0);
        after(at("prop 0 0;north 0 1;", "cc", "cc"), "stopped at deed 0", -1, -1, 0);
        // one is lost by each; two by one of them
        after(at("north 0 1;south 4 1;", "c...c", "cpppc"), "of several the first", 2, 0, 1);
        after(at("north 0 2;south 4 2;", "....c", "c...c", "cpppc"), "the one by which most", 2, 1, 2);
        after(at("south 4 2;north 0 2;", "....c", "c...c", "cpppc"), "most by the first", 1, 0, 2);
        // a prop that hangs is lost by the next cut, whatever is cut
        after(at("prop 0 0;north 0 2;knock 1;", "...", "..p", "c.p"), "a prop", 0, 1, 1);
        // lost by the deed at the stop: it is not done
        after(at("north 0 0;south 0 1;", "cp", "cp"), "nothing lost up to the stop", -1, -1, 0);
    }

    private static void afterAsked() {
        Document.says("Promise 28", "What 0: EYE (NONE: in no STATE), 1: WORST (NONE), 2: how many (0 without). -2:"
                + " there is none such (of either), or for another what.");
        TwoQuarries x = at("south 1 1;", ".c", ".c");
        after(x, "asked", 1, 0, 1);
        after(at("knock 20;", "pp", "pp"), "none", -1, -1, 0);
        for (int what : new int[] {MIN, -2, -1, 3, 4, 100, MAX}) {
            Check.due("after, " + what, x.after(0, 0, what), -2);
        }
        for (int what = 0; what < 3; what++) {
            for (int none : HillBounds.NO_HILL) {
                Check.due("after in hill " + none, x.after(none, 0, what), -2);
                Check.due("after of year " + none, x.after(0, none, what), -2);
            }
        }
    }

    /** Draws as the document says it, of 32 bits in a long. */
    private static final class Lot {
        private long x;

        Lot(int seed) {
            x = seed & 0xFFFFFFFFL;
        }

        int below(int n) {
            x = (x * 1103515245L + 12345L) & 0xFFFFFFFFL;
            return (int) ((x >> 16) % n);
        }
    }

    private static void drawnNumbers() {
        Document.says("Term 4", "DRAWN by a SEED, x; a number below n is drawn: x becomes x * 1103515245 + 12345 (of"
                + " 32 bits), it is x shifted right by 16 without sign, remainder by n: n times, 0 to 60:");
        // without stones there are props and knocks alone: those are heard till a prop shuts the way
        for (int seed : SEEDS) {
            TwoQuarries x = Check.drawn("..", "pp");
            Lot lot = new Lot(seed);
            int heard = 0;
            int props = 0;
            for (int n = 0; n <= 60; n++) {
                if (n < 5 || n % 5 == 0) {
                    drawnAir(x, seed, n, heard, props);
                }
                int kind = lot.below(8);
                int number = lot.below(kind == 7 ? 10 : 4);
                if (kind == 6 && number < 2) {
                    props |= 1 << number;
                }
                heard += kind == 7 && props == 0 ? 1 : 0;
            }
        }
    }

    /** Two cells of air above two props: a prop on cell k is bit k of props. */
    private static void drawnAir(TwoQuarries x, int seed, int n, int heard, int props) {
        String call = "drawn " + n + " times by " + seed + ", ";
        int[] due = {0, 0, 0, 0, 0, props == 0 ? 0 : -1, heard, 0};
        for (int what = 0; what < due.length; what++) {
            Check.due(call + what, x.drawn(0, seed, n, what), due[what]);
        }
        for (int cell = 0; cell < 4; cell++) {
            int kind = cell > 1 || (props >> cell & 1) == 1 ? 4 : 0;
            Check.due(call + "cell " + cell, x.drawn(0, seed, n, 100 + cell), kind);
        }
    }

    private static void drawnCuts() {
        Document.says("Term 4", "a number below 8: 0, 1, 2: north, 3, 4, 5: south, 6: prop, a CELL, below all; 7:"
                + " knock, a number below 10; each, if it may.");
        for (int seed = -300; seed < 300; seed++) {
            TwoQuarries x = Check.drawn("cccccccc", "cccccccc", "cccccccc", "cccccccc", "cccccccc", "cccccccc");
            Lot lot = new Lot(7919 * seed);
            int kind = lot.below(8);
            int number = lot.below(kind == 7 ? 10 : 48);
            boolean north = kind < 3 && number % 8 == 0;
            boolean south = kind >= 3 && kind < 6 && number % 8 == 7;
            int lost = north || south ? number / 8 : 0;
            int heard = kind == 7 && number >= 8 ? 1 : 0;
            int thick = north || south ? 7 : 8;
            int left = north || south ? 47 - lost : 48;
            int[] due = {north ? 1 : 0, south ? 1 : 0, north ? 1 : 0, south ? 1 : 0, lost, thick, heard, left};
            for (int what = 0; what < due.length; what++) {
                Check.due("drawn once by " + 7919 * seed + ", " + what, x.drawn(0, 7919 * seed, 1, what), due[what]);
            }
        }
    }

    private static void drawnProps() {
        Document.says("Promise 21", "DRAWN, n times, what as state().");
        for (int seed = 0; seed < 200; seed++) {
            TwoQuarries x = Check.drawn(".......", ".......", ".......");
            Lot lot = new Lot(104729 * seed);
            StringBuilder due = new StringBuilder(".".repeat(21));
            int heard = 0;
            int props = 0;
            for (int n = 0; n < 12; n++) {
                int kind = lot.below(8);
                int number = lot.below(kind == 7 ? 10 : 21);
                if (kind == 6 && due.charAt(number) == '.') {
                    due.setCharAt(number, 'p');
                    props++;
                }
                heard += kind == 7 ? 1 : 0;
            }
            for (int cell = 0; cell < 21; cell++) {
                int kind = ".cmgp".indexOf(due.charAt(cell));
                Check.due("drawn by " + 104729 * seed + ", cell " + cell, x.drawn(0, 104729 * seed, 12, 100 + cell), kind);
            }
            // two props can't shut three rows: every knock is heard
            if (props < 3) {
                Check.due("drawn by " + 104729 * seed + ", heard", x.drawn(0, 104729 * seed, 12, 6), heard);
                Check.due("drawn by " + 104729 * seed + ", thick", x.drawn(0, 104729 * seed, 12, 5), 0);
            }
            Check.due("the hill is as told", x.hill(0, 100), 0);
        }
    }

    private static void drawnRefused() {
        Document.says("Promise 21", "-2: there is none such, another n, or for another what.");
        TwoQuarries x = Check.drawn("cc", "cc");
        Check.due("drawn 0 times", x.drawn(0, 5, 0, 7), 4);
        for (int seed : SEEDS) {
            Check.due("drawn 60 times by " + seed, x.drawn(0, seed, 60, 4) >= 0, true);
            for (int n : new int[] {MIN, -2, -1, 61, 62, MAX}) {
                Check.due("drawn " + n + " times", x.drawn(0, seed, n, 0), -2);
            }
        }
        for (int what : new int[] {MIN, -101, -2, -1, 8, 9, 50, 99, 104, 105, 148, MAX}) {
            Check.due("drawn, " + what, x.drawn(0, 1, 1, what), -2);
        }
        for (int hill : HillBounds.NO_HILL) {
            Check.due("drawn in hill " + hill, x.drawn(hill, 1, 1, 0), -2);
            Check.due("drawn in hill " + hill + ", a cell", x.drawn(hill, 1, 0, 100), -2);
        }
    }
}
