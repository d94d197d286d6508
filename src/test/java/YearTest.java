/** Promises 7 to 9, 21 and 28: deed, stop, state, drawn, after. */
public final class YearTest {
    private static final int MAX = Integer.MAX_VALUE;
    private static final int MIN = Integer.MIN_VALUE;

    private YearTest() {
    }

    public static void main(String[] args) {
        deeds();
        states();
        stops();
        knocks();
        floatingProps();
        afterAll();
        drawn();
        noneSuch();
        Check.close("YearTest");
    }

    private static TwoQuarries at(String year, String... rows) {
        TwoQuarries x = Check.drawn(rows);
        Check.told(x, Check.YEAR, -1, year, 0);
        return x;
    }

    private static void deeds() {
        TwoQuarries x = at("north 1 2;south 7 5;prop 3 0;knock 20;", "cc", "cc");
        int[][] due = {{0, 1, 2}, {1, 7, 5}, {2, 3, 0}, {3, 20, -1}};
        Check.due("how many deeds", x.deed(0, -1, 0), 4);
        for (int k = 0; k < 4; k++) {
            for (int what = 0; what < 3; what++) {
                Check.due("deed(0, " + k + ", " + what + ")", x.deed(0, k, what), due[k][what]);
            }
        }
        for (int wrong : new int[] {-1, 3, MAX, MIN}) {
            Check.due("deed, what " + wrong, x.deed(0, 0, wrong), -2);
            Check.due("how many, what " + wrong, x.deed(0, -1, wrong), -2);
        }
        Check.due("how many, what 1", x.deed(0, -1, 1), -2);
        Check.due("deed 4", x.deed(0, 4, 0), -2);
        Check.due("deed -2", x.deed(0, -2, 0), -2);
        Check.due("deed most", x.deed(0, MAX, 0), -2);
        Check.due("deed of no year", x.deed(1, 0, 0), -2);
        Check.due("deed of year -1", x.deed(-1, -1, 0), -2);
        Check.told(x, Check.YEAR, -1, "", 1);
        Check.due("no deeds", x.deed(1, -1, 0), 0);
        Check.due("stop of no deeds", x.stop(0, 1), 0);
        Check.due("state of no deeds", x.state(0, 1, 0, 7), 4);
    }

    /** North opens a marble; a chalk that hangs is lost; south takes granite. */
    private static void states() {
        TwoQuarries x = at("north 0 1;south 2 0;south 2 1;north 1 1;", "c.g", "cmg");
        Check.due("stop", x.stop(0, 0), 4);
        int[][] due = {
            {0, 0, 0, 0, 0, 2, 0, 5}, {1, 0, 1, 0, 1, 1, 0, 3}, {1, 2, 1, 3, 1, 0, 0, 2},
            {1, 4, 1, 6, 1, 0, 0, 1}, {5, 4, 3, 6, 1, 0, 0, 0}};
        for (int n = 0; n <= 4; n++) {
            for (int what = 0; what < 8; what++) {
                Check.due("state behind " + n + ", " + what, x.state(0, 0, n, what), due[n][what]);
            }
        }
        int[] kinds = {1, 0, 3, 1, 2, 3};
        for (int c = 0; c < 6; c++) {
            Check.due("kind " + c + " at first", x.state(0, 0, 0, 100 + c), kinds[c]);
            Check.due("kind " + c + " in the end", x.state(0, 0, 4, 100 + c), 0);
        }
        for (int what : new int[] {-1, 8, 99, 106, MAX, MIN}) {
            Check.due("state, what " + what, x.state(0, 0, 1, what), -2);
        }
        Check.due("state 5", x.state(0, 0, 5, 0), -2);
        Check.due("state -1", x.state(0, 0, -1, 0), -2);
        Check.due("state most", x.state(0, 0, MAX, 0), -2);
        Check.due("the hill is as told", x.hill(0, 2), 5);
    }

    private static void stops() {
        String[] rows = {"c.cc", "cpcc"};
        String[] cannot = {"north 1 0;", "north 1 1;", "north 2 0;", "south 0 0;", "north 4 0;", "north 0 2;",
            "prop 0 0;", "prop 1 1;", "prop 4 0;", "prop 0 2;", "north 7 5;", "south 2 1;"};
        for (String deed : cannot) {
            TwoQuarries x = at("knock 1;" + deed + "knock 9;", rows);
            Check.due("stop at '" + deed + "'", x.stop(0, 0), 1);
            Check.due("state up to the stop", x.state(0, 0, 1, 7), 6);
            Check.due("no state behind the stop", x.state(0, 0, 2, 7), -2);
        }
        String[] can = {"north 0 0;", "north 0 1;", "south 3 0;", "south 3 1;", "prop 1 0;"};
        for (String deed : can) {
            TwoQuarries x = at("knock 1;" + deed + "knock 9;", rows);
            Check.due("no stop at '" + deed + "'", x.stop(0, 0), 3);
        }
        TwoQuarries reached = at("north 0 0;north 2 0;north 3 0;north 0 1;", rows);
        Check.due("reached behind a cut", reached.stop(0, 0), 4);
        Check.due("north's worth", reached.state(0, 0, 4, 0), 4);
        TwoQuarries shut = at("prop 1 0;north 0 0;north 2 0;", rows);
        Check.due("a prop shuts the way", shut.stop(0, 0), 2);
        TwoQuarries twice = at("north 0 0;north 0 0;", rows);
        Check.due("a stone is cut once", twice.stop(0, 0), 1);
    }

    private static void knocks() {
        TwoQuarries x = at("knock 1;knock 2;knock 20;south 1 0;knock 1;knock 0;", "cc", "cc");
        int[] heard = {0, 0, 1, 2, 2, 3, 3};
        for (int n = 0; n < heard.length; n++) {
            Check.due("heard behind " + n, x.state(0, 0, n, 6), heard[n]);
        }
        TwoQuarries wall = at("knock 20;", "cp", "cp");
        Check.due("nothing is heard without a way", wall.state(0, 0, 1, 6), 0);
        Check.due("thick without a way", wall.state(0, 0, 1, 5), -1);
    }

    /** A prop that does not stand stays until the next cut. */
    private static void floatingProps() {
        TwoQuarries x = at("prop 1 0;knock 3;south 2 1;", "...", "p.c");
        Check.due("stop", x.stop(0, 0), 3);
        Check.due("a prop in the air", x.state(0, 0, 2, 101), 4);
        Check.due("nothing lost yet", x.state(0, 0, 2, 4), 0);
        Check.due("lost by the next cut", x.state(0, 0, 3, 4), 1);
        Check.due("air again", x.state(0, 0, 3, 101), 0);
        TwoQuarries held = at("prop 1 1;north 0 0;", "ccc", "c.c");
        Check.due("a prop bears", held.state(0, 0, 2, 4), 0);
        TwoQuarries bare = at("north 0 0;", "ccc", "c.c");
        Check.due("without it a stone is lost", bare.state(0, 0, 1, 4), 1);
    }

    private static void afterAll() {
        TwoQuarries x = at("south 3 0;knock 2;knock 1;north 0 1;prop 0 0;south 2 0;north 1 0;", "gccm", "c.mc");
        Check.due("eye", x.after(0, 0, 0), 6);
        Check.due("worst", x.after(0, 0, 1), 3);
        Check.due("how many by it", x.after(0, 0, 2), 2);
        Check.due("after, what 3", x.after(0, 0, 3), -2);
        Check.due("after, what -1", x.after(0, 0, -1), -2);
        TwoQuarries calm = at("knock 1;north 0 0;north 7 0;", "cc", "cc");
        Check.due("no eye", calm.after(0, 0, 0), -1);
        Check.due("no worst", calm.after(0, 0, 1), -1);
        Check.due("none lost", calm.after(0, 0, 2), 0);
        TwoQuarries open = at("", "..", "cc");
        Check.due("through from the first", open.after(0, 0, 0), 0);
        TwoQuarries alike = at("north 0 1;south 2 1;", "c.c", "cpc");
        Check.due("of several the first", alike.after(0, 0, 1), 0);
        Check.due("one by it", alike.after(0, 0, 2), 1);
        Check.due("eye behind both", alike.after(0, 0, 0), 2);
    }

    /** By seed 0 come 12345, 3554416254, 2802067423, 3596950572: north cuts cell 0, south cuts cell 1. */
    private static void drawn() {
        TwoQuarries x = Check.drawn("cc", "cc");
        int[] none = {0, 0, 0, 0, 0, 2, 0, 4};
        int[] one = {1, 0, 1, 0, 0, 1, 0, 3};
        int[] two = {1, 1, 1, 1, 0, 0, 0, 2};
        for (int what = 0; what < 8; what++) {
            Check.due("drawn 0, " + what, x.drawn(0, 0, 0, what), none[what]);
            Check.due("drawn 1, " + what, x.drawn(0, 0, 1, what), one[what]);
            Check.due("drawn 2, " + what, x.drawn(0, 0, 2, what), two[what]);
        }
        Check.due("drawn, cell 0", x.drawn(0, 0, 2, 100), 0);
        Check.due("drawn, cell 2", x.drawn(0, 0, 2, 102), 1);
        for (int what : new int[] {-1, 8, 99, 104, MAX, MIN}) {
            Check.due("drawn, what " + what, x.drawn(0, 0, 2, what), -2);
        }
        Check.due("drawn 61", x.drawn(0, 0, 61, 0), -2);
        Check.due("drawn -1", x.drawn(0, 0, -1, 0), -2);
        Check.due("drawn of no hill", x.drawn(1, 0, 1, 0), -2);
        Check.due("drawn 60, nothing thrown", x.drawn(0, MIN, 60, 7) >= 0, true);
        for (int seed = -20; seed < 20; seed++) {
            drawnAsTold(7919 * seed);
        }
    }

    /** The same deeds told as a year, but for those that may not be. */
    private static void drawnAsTold(int seed) {
        TwoQuarries x = at("", "cmg.", "gcpc", "mcgc");
        int number = seed;
        String year = "";
        int done = 0;
        for (int i = 0; i < 16; i++) {
            number = number * 1103515245 + 12345;
            int kind = (number >>> 16) % 8;
            number = number * 1103515245 + 12345;
            int drawn = number >>> 16;
            String word = kind < 3 ? "north " : kind < 6 ? "south " : "prop ";
            String deed = kind == 7 ? "knock " + drawn % 10 + ";" : word + drawn % 12 % 4 + " " + drawn % 12 / 4 + ";";
            Check.told(x, Check.YEAR, 0, year + deed, 0);
            if (x.stop(0, 0) == done + 1) {
                done++;
                year += deed;
            }
        }
        Check.told(x, Check.YEAR, 0, year, 0);
        for (int what = 0; what < 8; what++) {
            Check.due("drawn by " + seed + ", " + what, x.drawn(0, seed, 16, what), x.state(0, 0, done, what));
        }
        for (int what = 100; what < 112; what++) {
            Check.due("drawn by " + seed + ", " + what, x.drawn(0, seed, 16, what), x.state(0, 0, done, what));
        }
    }

    private static void noneSuch() {
        TwoQuarries x = at("knock 1;", "cc", "cc");
        for (int wrong : new int[] {-1, 1, 2, MAX, MIN}) {
            Check.due("stop of no hill", x.stop(wrong, 0), -1);
            Check.due("stop of no year", x.stop(0, wrong), -1);
            Check.due("state of no hill", x.state(wrong, 0, 0, 0), -2);
            Check.due("state of no year", x.state(0, wrong, 0, 0), -2);
            Check.due("after of no hill", x.after(wrong, 0, 0), -2);
            Check.due("after of no year", x.after(0, wrong, 0), -2);
            Check.due("drawn of no hill", x.drawn(wrong, 0, 0, 0), -2);
        }
    }
}
