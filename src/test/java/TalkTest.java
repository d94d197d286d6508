import java.util.ArrayList;
import java.util.List;

/** Promises 20, 30 and 36: talk, plain, deepest. */
public final class TalkTest {
    private static final int MAX = Integer.MAX_VALUE;
    private static final int MIN = Integer.MIN_VALUE;

    private TalkTest() {
    }

    public static void main(String[] args) {
        words();
        smallTalks();
        eightWords();
        everyCode();
        noneSuch();
        Check.close("TalkTest");
    }

    private static TwoQuarries at(int... often) {
        StringBuilder text = new StringBuilder();
        for (int n : often) {
            text.append("word ").append(n).append(';');
        }
        TwoQuarries x = new TwoQuarries();
        Check.told(x, Check.TALK, -1, text.toString(), 0);
        return x;
    }

    private static void words() {
        TwoQuarries x = at(4, 4, 9);
        Check.due("how many words", x.talk(0, -1), 3);
        Check.due("word 0", x.talk(0, 0), 4);
        Check.due("word 2", x.talk(0, 2), 9);
        Check.due("word 3", x.talk(0, 3), -1);
        Check.due("word -3", x.talk(0, -3), -1);
        Check.due("word most", x.talk(0, MAX), -1);
        Check.due("word least", x.talk(0, MIN), -1);
        Check.due("code", x.talk(0, -2), 37);
        Check.due("deepest", x.deepest(0), 3);
        Check.due("plain", x.plain(0, -1), 29);
        int[] blows = {2, 3, 1, -1};
        for (int k = 0; k < 4; k++) {
            Check.due("plain(0, " + k + ")", x.plain(0, k), blows[k]);
        }
        Check.due("plain(0, -2)", x.plain(0, -2), -1);
        Check.due("plain(0, most)", x.plain(0, MAX), -1);
    }

    private static void talk(int code, int deepest, int plain, int... often) {
        TwoQuarries x = at(often);
        Check.due("code of " + often.length, x.talk(0, -2), code);
        Check.due("deepest of " + often.length, x.deepest(0), deepest);
        Check.due("plain of " + often.length, x.plain(0, -1), plain);
    }

    private static void smallTalks() {
        talk(0, 0, 0);
        talk(7, 1, 7, 7);
        talk(0, 1, 0, 0);
        talk(5 + 6, 2, 11, 3, 5);
        talk(2 + 2 + 3, 3, 6, 1, 1, 1);
        // words that are never told have blows all the same
        talk(9, 3, 9, 9, 0, 0);
        talk(0, 3, 0, 0, 0, 0);
        // 2, 3, 3, 4
        talk(12, 4, 10, 1, 1, 1, 1);
        talk(12 * 99, 4, 990, 99, 99, 99, 99);
    }

    private static void eightWords() {
        // 3, 4, 4, 4, 5, 5, 5, 5: the lengths up to 5 that hold eight words
        talk(35, 5, 36, 1, 1, 1, 1, 1, 1, 1, 1);
        int[] depths = {0, 1, 2, 3, 4, 4, 5, 5, 5};
        for (int n = 0; n <= 8; n++) {
            Check.due("deepest of " + n, at(new int[n]).deepest(0), depths[n]);
        }
    }

    /** Of up to four words every code of words of up to four blows is tried. */
    private static void everyCode() {
        List<String> all = new ArrayList<>();
        addBlows("", all);
        int[][] talks = {{1, 1}, {9, 2}, {0, 5}, {5, 3, 2}, {9, 1, 1}, {7, 7, 7}, {0, 0, 3}, {8, 4, 2, 1}, {20, 3, 3, 1},
            {5, 5, 5, 5}, {9, 9, 1, 1}, {0, 0, 0, 1}, {99, 98, 50, 1}, {6, 5, 3, 3}};
        for (int[] often : talks) {
            int[] best = {MAX, MAX};
            tryCodes(all, often, 0, new ArrayList<>(), best);
            TwoQuarries x = at(often);
            Check.due("code by trying", x.talk(0, -2), best[0]);
            Check.due("deepest by trying", x.deepest(0), best[1]);
        }
    }

    private static void addBlows(String row, List<String> all) {
        if (!row.isEmpty()) {
            all.add(row);
        }
        if (row.length() < 4) {
            addBlows(row + "1", all);
            addBlows(row + "2", all);
        }
    }

    private static int blows(String row) {
        return row.chars().map(sign -> sign - '0').sum();
    }

    private static void tryCodes(List<String> all, int[] often, int sum, List<String> code, int[] best) {
        if (code.size() == often.length) {
            best[0] = Math.min(best[0], sum);
            best[1] = Math.min(best[1], code.stream().mapToInt(TalkTest::blows).max().orElse(0));
            return;
        }
        for (String row : all) {
            boolean free = true;
            for (String other : code) {
                free &= !row.startsWith(other) && !other.startsWith(row);
            }
            if (free) {
                code.add(row);
                tryCodes(all, often, sum + often[code.size() - 1] * blows(row), code, best);
                code.remove(code.size() - 1);
            }
        }
    }

    private static void noneSuch() {
        TwoQuarries x = at(3);
        for (int wrong : new int[] {-1, 1, 2, MAX, MIN}) {
            Check.due("talk of none", x.talk(wrong, -1), -1);
            Check.due("code of none", x.talk(wrong, -2), -1);
            Check.due("plain of none", x.plain(wrong, -1), -1);
            Check.due("deepest of none", x.deepest(wrong), -1);
        }
    }
}
