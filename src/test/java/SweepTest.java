import java.nio.charset.StandardCharsets;
import java.util.Arrays;
import java.util.Random;

/** Promises 10 to 17, 22 to 27 and 31 to 34 on hills by fixed seeds: all numbers that may be asked, against the model. */
public final class SweepTest {
    private static final int HILLS = 800;
    private static final String[] MIXES = {"ccmg.", "cmg..", "cmgp...", "cmgpp.....", "c..", "mgp......."};

    private final TwoQuarries x = new TwoQuarries();
    private final Model model = new Model();
    private final String name;
    private final int cells;

    private SweepTest(String[] rows) {
        name = String.join("/", rows) + ": ";
        cells = rows.length * rows[0].length();
        byte[] text = Check.textOf(rows).getBytes(StandardCharsets.ISO_8859_1);
        Check.feed(x, text);
        byte[] fed = Arrays.copyOf(text, (text.length + 19) / 20 * 20);
        for (int at = 0; at < fed.length; at += 20) {
            java.nio.IntBuffer five = java.nio.ByteBuffer.wrap(fed, at, 20).slice().asIntBuffer();
            model.feed(five.get(0), five.get(1), five.get(2), five.get(3), five.get(4));
        }
        model.end(text.length);
        due("text", x.text(0, -1), model.text(0, -1));
    }

    public static void main(String[] args) {
        Random random = new Random(7);
        for (int i = 0; i < HILLS; i++) {
            int wide = 2 + random.nextInt(7);
            int high = 2 + random.nextInt(wide > 6 ? 3 : 5);
            SweepTest test = new SweepTest(Model.standing(wide, high, random, MIXES[i % MIXES.length]));
            test.byCell();
            test.bySide();
            test.byNumber();
        }
        Check.close("SweepTest");
    }

    private void due(String call, long got, long want) {
        Check.due(name + call, got, want);
    }

    private void byCell() {
        for (int cell = -2; cell <= cells; cell++) {
            due("fell " + cell, x.fell(0, cell), model.fell(0, cell));
            for (int k = -1; k < 2; k++) {
                due("propped " + cell + ", " + k, x.propped(0, cell, k), model.propped(0, cell, k));
            }
            for (int side = 0; side < 2; side++) {
                due("comes of " + side + " to " + cell, x.comes(0, side, cell), model.comes(0, side, cell));
            }
        }
    }

    private void bySide() {
        for (int side = 0; side < 2; side++) {
            for (int k = -1; k < 3; k++) {
                due("cuts", x.cuts(0, side, false, k), model.cuts(0, side, false, k));
                due("safe cuts", x.cuts(0, side, true, k), model.cuts(0, side, true, k));
            }
            for (int n = 0; n < 3; n++) {
                for (int k = -2; k < n; k++) {
                    due("rich of " + n + ", " + k, x.rich(0, side, n, k), model.rich(0, side, n, k));
                }
            }
            due("rich of 3", x.rich(0, side, 3, -1), model.rich(0, side, 3, -1));
            due("nearer", x.nearer(0, side), model.nearer(0, side));
            due("streak", x.streak(0, side), model.streak(0, side));
            due("steady", x.steady(0, side, false), model.steady(0, side, false));
            due("steady worth", x.steady(0, side, true), model.steady(0, side, true));
        }
    }

    private void byNumber() {
        due("thick", x.thick(0), model.thick(0));
        due("path", x.path(0), model.path(0));
        for (int n = 0; n < 4; n++) {
            due("duel of " + n, x.duel(0, n, false), model.duel(0, n, false));
            due("first of " + n, x.duel(0, n, true), model.duel(0, n, true));
            due("caves, " + n, x.caves(0, n), model.caves(0, n));
            due("pillars of " + n, x.pillars(0, n), model.pillars(0, n));
            due("quake of " + 3 * n, x.quake(0, 3 * n, false), model.quake(0, 3 * n, false));
            due("quake of " + 3 * n + ", under", x.quake(0, 3 * n, true), model.quake(0, 3 * n, true));
            due("race of " + 13 * n, x.race(0, 13 * n, n), model.race(0, 13 * n, n));
        }
        for (int n = 0; n < 3; n++) {
            for (int k = -1; k < n; k++) {
                due("shored by " + n + ", " + k, x.shored(0, n, k), model.shored(0, n, k));
            }
        }
        for (boolean second : new boolean[] {false, true}) {
            due("border", x.border(0, second), model.border(0, second));
            due("crest", x.crest(0, second), model.crest(0, second));
        }
    }
}
