import java.util.Arrays;

/** The edges of promises 20, 30 and 36: talk, plain, deepest. */
final class TalkBounds {
    private static final int MAX = HillBounds.MAX;
    private static final int MIN = HillBounds.MIN;

    private TalkBounds() {
    }

    static void tryAll() {
        code();
        plain();
        deepest();
        talkAsked();
        talkRefused();
        plainAsked();
        deepestAsked();
    }

    private static TwoQuarries at(int... often) {
        StringBuilder text = new StringBuilder();
        for (int n : often) {
            text.append("word ").append(n).append(';');
        }
        TwoQuarries x = new TwoQuarries();
        Check.told(x, Check.TALK, -1, text.toString(), 0);
        return x;
    }

    private static void code(int due, int... often) {
        Check.due("code of " + Arrays.toString(often), at(often).talk(0, -2), due);
        int[] turned = new int[often.length];
        for (int k = 0; k < often.length; k++) {
            turned[k] = often[often.length - 1 - k];
        }
        Check.due("code of " + Arrays.toString(turned), at(turned).talk(0, -2), due);
    }

    private static void code() {
        Document.says("Term 4", "(Of a TALK.) CODE: each WORD is a row of blows, short, 1, or long, 2, one at least,"
                + " none the beginning of another one: the fewest that are struck if each WORD is told as OFTEN as"
                + " told, all together (a long one counts 2).");
        code(0);
        // one word: one blow at least
        code(0, 0);
        code(1, 1);
        code(99, 99);
        // two: a short one and a long one
        code(0, 0, 0);
        code(99, 99, 0);
        code(99 + 2 * 98, 98, 99);
        // three: 1 and 21, 22 (3 and 4), or 2 and 11, 12 (2 and 3)
        code(3 + 2 + 2, 1, 1, 1);
        code(9 + 3 + 4, 9, 1, 1);
        code(2 * 2 + 2 * 2 + 3, 2, 2, 1);
        code(2 + 3 + 4, 2, 1, 1);
        // five to eight alike: as even as can be
        code(17, 1, 1, 1, 1, 1);
        code(23, 1, 1, 1, 1, 1, 1);
        code(29, 1, 1, 1, 1, 1, 1, 1);
        code(35, 1, 1, 1, 1, 1, 1, 1, 1);
        code(35 * 99, 99, 99, 99, 99, 99, 99, 99, 99);
        // as uneven as can be: 1, 3, 5, 7, 9, 11, 13 and 14 blows
        code(99 + 50 * 3 + 25 * 5 + 12 * 7 + 6 * 9 + 3 * 11 + 13, 99, 50, 25, 12, 6, 3, 1, 0);
        code(99, 99, 0, 0, 0, 0, 0, 0, 0);
        code(0, 0, 0, 0, 0, 0, 0, 0, 0);
    }

    private static void plain(TwoQuarries x, int all, int... blows) {
        Check.due("plain in all", x.plain(0, -1), all);
        for (int k = 0; k < blows.length; k++) {
            Check.due("blows of word " + k, x.plain(0, k), blows[k]);
        }
        Check.due("no word " + blows.length, x.plain(0, blows.length), -1);
    }

    private static void plain() {
        Document.says("Term 5", "Of a TALK: PLAIN: WORDS are told by short blows alone, the one most OFTEN, of"
                + " several the least, by 1, the next by 2, and so on: how many are struck in all; how many of them a"
                + " WORD has.");
        plain(at(), 0);
        plain(at(0), 0, 1);
        plain(at(99), 99, 1);
        plain(at(3, 7), 7 + 6, 2, 1);
        plain(at(7, 7), 7 + 14, 1, 2);
        plain(at(4, 9, 4, 9), 9 + 18 + 12 + 16, 3, 1, 4, 2);
        plain(at(0, 0, 1), 1, 2, 3, 1);
        plain(at(1, 2, 3, 4, 5, 6, 7, 8), 120, 8, 7, 6, 5, 4, 3, 2, 1);
        plain(at(99, 99, 99, 99, 99, 99, 99, 99), 99 * 36, 1, 2, 3, 4, 5, 6, 7, 8);
    }

    private static void deepest() {
        Document.says("Term 6", "Of a TALK: DEEPEST: the fewest blows that the longest WORD of a code (as of CODE, a"
                + " long one counts 2) has, if that is to be as short as can be (without WORDS: 0).");
        int[] due = {0, 1, 2, 3, 4, 4, 5, 5, 5};
        for (int many = 0; many <= 8; many++) {
            int[] often = new int[many];
            Check.due("deepest of " + many + ", never told", at(often).deepest(0), due[many]);
            for (int k = 0; k < many; k++) {
                often[k] = 99 >> k;
            }
            Check.due("deepest of " + many + ", however often", at(often).deepest(0), due[many]);
        }
    }

    private static void talkAsked() {
        Document.says("Promise 20", "How many WORDS (k NONE), or how OFTEN WORD k; k -2: CODE.");
        TwoQuarries x = at(4, 0, 99);
        Check.told(x, Check.TALK, -1, "", 1);
        int[] due = {4, 0, 99};
        Check.due("how many words", x.talk(0, -1), 3);
        for (int k = 0; k < due.length; k++) {
            Check.due("word " + k, x.talk(0, k), due[k]);
        }
        Check.due("code", x.talk(0, -2), 99 + 4 * 3);
        Check.due("no words", x.talk(1, -1), 0);
        Check.due("code of no words", x.talk(1, -2), 0);
        Check.due("word 0 of none", x.talk(1, 0), -1);
        Check.due("code once more", x.talk(0, -2), 99 + 4 * 3);
    }

    private static void talkRefused() {
        Document.says("Promise 20", "NONE: there is none such (of either).");
        TwoQuarries x = at(7, 8);
        for (int k : new int[] {MIN, -4, -3, 2, 3, 7, 8, MAX}) {
            Check.due("talk, " + k, x.talk(0, k), -1);
        }
        for (int talk : HillBounds.NO_HILL) {
            for (int k = -2; k < 2; k++) {
                Check.due("talk " + talk + ", " + k, x.talk(talk, k), -1);
            }
        }
    }

    private static void plainAsked() {
        Document.says("Promise 30", "PLAIN: in all (k NONE), or how many blows WORD k has. NONE: there is none such"
                + " (of either).");
        TwoQuarries x = at(7, 8);
        plain(x, 22, 2, 1);
        for (int k : new int[] {MIN, -3, -2, 2, 3, 7, 8, MAX}) {
            Check.due("plain, " + k, x.plain(0, k), -1);
        }
        for (int talk : HillBounds.NO_HILL) {
            for (int k = -1; k < 2; k++) {
                Check.due("plain of talk " + talk + ", " + k, x.plain(talk, k), -1);
            }
        }
    }

    private static void deepestAsked() {
        Document.says("Promise 36", "DEEPEST. NONE: there is none such.");
        TwoQuarries x = at(1, 1, 1);
        Check.told(x, Check.TALK, -1, "", 1);
        Check.due("deepest of three", x.deepest(0), 3);
        Check.due("deepest of none", x.deepest(1), 0);
        for (int talk : new int[] {MIN, -2, -1, 2, 3, MAX}) {
            Check.due("deepest of talk " + talk, x.deepest(talk), -1);
        }
    }
}
