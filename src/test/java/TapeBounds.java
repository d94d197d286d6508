import java.nio.charset.StandardCharsets;

/** The edges of promises 1 to 5 and 37 to 39: the tape, texts and their faults, images. */
final class TapeBounds {
    private static final int MAX = Integer.MAX_VALUE;
    private static final int MIN = Integer.MIN_VALUE;
    private static final int BLANKS = 0x20202020;
    private static final String[] ONE_OF_A_SORT = {"size 2 2;", "knock 7;", "heard 1 1 1;", "word 7;"};
    private static final String[] OTHER_OF_A_SORT = {"size 3 2;", "knock 8;", "heard 2 2 2;", "word 8;"};

    private TapeBounds() {
    }

    static void tryAll() {
        manyCalls();
        constants();
        newObject();
        bytesFed();
        tapeFull();
        ended();
        endRefused();
        taken();
        faulty();
        notTaken();
        faultAsked();
        faultRefused();
        counted();
        countRefused();
        images();
        again();
        tapeLong();
        twoOfASort();
    }

    private static void feedBlanks(TwoQuarries x, int times) {
        for (int i = 0; i < times; i++) {
            x.feed(BLANKS, BLANKS, BLANKS, BLANKS, BLANKS);
        }
    }

    private static void manyCalls() {
        Document.says("What it is", "An object is used for at most 512 calls after it has been made; what later calls"
                + " answer is free.");
        TwoQuarries x = new TwoQuarries();
        x.feed(0x776F7264, 0x2034323B, 0, 0, 0);
        x.end(8);
        x.text(3, -1);
        for (int call = 4; call < 512; call++) {
            x.talk(0, call % 4 - 2);
        }
        Check.due("call 512", x.talk(0, 0), 42);
    }

    private static void constants() {
        Document.says("Constants", "The constants: `NONE = -1`: There is none.");
        Check.due("NONE", TwoQuarries.NONE, -1);
    }

    private static void newObject() {
        Document.says("Promise 1", "No HILLS, YEARS, LOGS, TALKS; no images.");
        TwoQuarries x = new TwoQuarries();
        for (int sort = 0; sort < 4; sort++) {
            Check.due("new: count(" + sort + ")", x.count(sort), 0);
            Check.due("new: text(" + sort + ", 0)", x.text(sort, 0), -2);
        }
        for (int k = 0; k < 3; k++) {
            Check.due("new: again(" + k + ")", x.again(k), false);
        }
        for (int i = 0; i < 2; i++) {
            Check.due("new: hill", x.hill(i, 0), -1);
            Check.due("new: deed", x.deed(i, -1, 0), -2);
            Check.due("new: stop", x.stop(i, i), -1);
            Check.due("new: state", x.state(i, i, 0, 0), -2);
            Check.due("new: fact", x.fact(i, -1, 0), -2);
            Check.due("new: fits", x.fits(i, 0), -2);
            Check.due("new: talk", x.talk(i, -1), -1);
            Check.due("new: drawn", x.drawn(i, 0, 0, 0), -2);
        }
        Check.due("new: the tape is empty", x.end(1), -1);
    }

    private static void bytesFed() {
        Document.says("Promise 2", "The tape: twenty bytes come behind it, of each number the highest first: how many"
                + " it has.");
        TwoQuarries x = new TwoQuarries();
        // word1;word2;word 34;
        Check.due("feed()", x.feed(0x776F7264, 0x313B776F, 0x7264323B, 0x776F7264, 0x2033343B), 20);
        Check.due("feed() of another twenty", x.feed(0x776F7264, 0x353B776F, 0x7264363B, 0x776F7264, 0x2037383B), 40);
        Check.due("text() of forty", x.text(3, -1), 0);
        int[] often = {1, 2, 34, 5, 6, 78};
        for (int k = 0; k < often.length; k++) {
            Check.due("word " + k, x.talk(0, k), often[k]);
        }
        Check.due("no further word", x.talk(0, -1), 6);
        for (int at = 0; at < 20; at++) {
            int[] fed = {BLANKS, BLANKS, BLANKS, BLANKS, BLANKS};
            fed[at / 4] |= 0xFF << (24 - 8 * (at % 4));
            x.feed(fed[0], fed[1], fed[2], fed[3], fed[4]);
            Check.due("text() with a byte 255 at " + at, x.text(3, -1), -1);
            Check.due("its place", x.fault(1), at);
        }
        Check.due("feed() behind an odd length", x.feed(0, 0, 0, 0, 0) + x.end(13), 33);
        Check.due("feed() behind 13", x.feed(0, 0, 0, 0, 0), 33);
    }

    private static void tapeFull() {
        Document.says("Promise 2", "NONE, and nothing comes, if there would be more than 600.");
        for (int length = 575; length <= 600; length++) {
            TwoQuarries x = new TwoQuarries();
            feedBlanks(x, 30);
            Check.due("end(" + length + ")", x.end(length), length);
            int due = length > 580 ? -1 : length + 20;
            Check.due("feed() behind " + length, x.feed(-1, -1, -1, -1, -1), due);
            Check.due("no byte more behind " + length, x.end(Math.max(length, due) + 1), -1);
            Check.due("all bytes are there behind " + length, x.end(Math.max(length, due)), Math.max(length, due));
            Check.due("text() behind " + length, x.text(3, -1), due == -1 ? 0 : -1);
            Check.due("its place", x.fault(1), due == -1 ? -1 : length);
        }
    }

    private static void tapeLong() {
        Document.says("Term 1", "THE TAPE has at most 600 bytes.");
        TwoQuarries x = new TwoQuarries();
        // 52 lines of 11 bytes, 16 blanks and a line of 12: its ';' is byte 600
        String text = "marble 0 0;".repeat(52) + "\n ".repeat(8) + "granite 5 3;";
        Check.told(x, Check.HILL, -1, text, 0);
        Check.due("feed() behind a text of 600", x.feed(0, 0, 0, 0, 0), 20);
        Check.due("end(0)", x.end(0), 0);
        Check.due("the first line of 600 bytes", x.hill(0, 100), 2);
        Check.due("the last line of 600 bytes", x.hill(0, 123), 3);
        feedBlanks(x, 30);
        Check.due("a byte more", x.feed(BLANKS, BLANKS, BLANKS, BLANKS, BLANKS), -1);
    }

    private static void ended() {
        Document.says("Promise 3", "The tape has its first n bytes alone: n.");
        String text = "word 1;word 2;word 3";
        for (int n = 0; n <= 20; n++) {
            TwoQuarries x = new TwoQuarries();
            Check.feed(x, text.getBytes(StandardCharsets.ISO_8859_1));
            Check.due("end(" + n + ")", x.end(n), n);
            Check.due("not one byte more than " + n, x.end(n + 1), -1);
            Check.due("text() of the first " + n, x.text(3, -1), n % 7 == 0 ? 0 : -1);
            Check.due("words of the first " + n, x.talk(0, -1), n % 7 == 0 ? n / 7 : -1);
        }
        TwoQuarries x = new TwoQuarries();
        Check.feed(x, text.getBytes(StandardCharsets.ISO_8859_1));
        x.end(14);
        // what comes next comes behind the first 14 bytes
        x.feed(0x776F7264, 0x2039393B, BLANKS, BLANKS, BLANKS);
        Check.due("text() behind end() and feed()", x.text(3, -1), 0);
        Check.due("the word behind 14 bytes", x.talk(0, 2), 99);
    }

    private static void endRefused() {
        Document.says("Promise 3", "NONE if it has not so many, or n is below 0.");
        for (int fed = 0; fed <= 2; fed++) {
            for (int n : new int[] {-1, -2, -20, MIN, 20 * fed + 1, 601, MAX}) {
                TwoQuarries x = new TwoQuarries();
                feedBlanks(x, fed);
                Check.due("end(" + n + ") of " + 20 * fed, x.end(n), -1);
                Check.due("as many as before", x.end(20 * fed), 20 * fed);
            }
        }
        TwoQuarries x = new TwoQuarries();
        feedBlanks(x, 30);
        Check.due("end(601) of 600", x.end(601), -1);
        Check.due("end(600) of 600", x.end(600), 600);
        Check.due("end(600) once more", x.end(600), 600);
    }

    private static void taken() {
        Document.says("Promise 4", "The tape is taken (and is empty then) as a text of a sort, a further one (at"
                + " NONE), or in the place of one: its number.");
        for (int sort = 0; sort < 4; sort++) {
            TwoQuarries x = new TwoQuarries();
            Check.told(x, sort, -1, "", 0);
            Check.told(x, sort, -1, ONE_OF_A_SORT[sort], 1);
            Check.due("the tape is empty then", x.end(1), -1);
            Check.due("count(" + sort + ")", x.count(sort), 2);
            String before = Check.allTold(x);
            Check.told(x, sort, 0, OTHER_OF_A_SORT[sort], 0);
            Check.told(x, sort, 1, OTHER_OF_A_SORT[sort], 1);
            Check.due("count(" + sort + ") as before", x.count(sort), 2);
            Check.told(x, sort, 0, "", 0);
            Check.told(x, sort, 1, ONE_OF_A_SORT[sort], 1);
            Check.unchanged("there and back again", x, before);
            for (int other = 0; other < 4; other++) {
                Check.due("count(" + other + ")", x.count(other), other == sort ? 2 : 0);
            }
        }
    }

    private static void faulty() {
        Document.says("Promise 4", "NONE: a FAULT.");
        for (int sort = 0; sort < 4; sort++) {
            for (int at = -1; at < 1; at++) {
                TwoQuarries x = new TwoQuarries();
                Check.told(x, sort, -1, ONE_OF_A_SORT[sort], 0);
                String before = Check.allTold(x);
                // all but the last byte stands well
                String text = OTHER_OF_A_SORT[sort].repeat(2) + "#";
                Check.due("text() with a fault", Check.tell(x, sort, at, text), -1);
                Check.due("the tape is empty behind a fault", x.end(1), -1);
                Check.due("the fault", x.fault(0), 1);
                Check.due("text() of the other number", Check.tell(x, 4, -1, ""), -2);
                Check.unchanged("a fault", x, before);
            }
        }
    }

    private static void notTaken() {
        Document.says("Promise 4", "-2: there is none such, there are as many as may be, or no such sort (no text is"
                + " read then, FAULT 0).");
        for (int sort = 0; sort < 4; sort++) {
            for (int many = 0; many <= 2; many++) {
                for (int at : new int[] {MIN, -3, -2, -1, 0, 1, 2, 3, MAX}) {
                    boolean may = at == -1 ? many < 2 : at >= 0 && at < many;
                    if (!may) {
                        notTaken(sort, at, many);
                    }
                }
            }
        }
        for (int sort : new int[] {MIN, -2, -1, 4, 5, MAX}) {
            for (int at = -2; at <= 2; at++) {
                notTaken(sort, at, 1);
            }
        }
    }

    private static void notTaken(int sort, int at, int many) {
        TwoQuarries x = new TwoQuarries();
        for (int i = 0; i < 4 * many; i++) {
            Check.told(x, i / many, -1, ONE_OF_A_SORT[i / many], i % many);
        }
        String call = "text(" + sort + ", " + at + ") of " + many;
        String before = Check.allTold(x);
        // a text that would be well, one that would have a fault, and none; each behind a fault
        for (String text : new String[] {OTHER_OF_A_SORT[sort & 3], "#", ""}) {
            Check.due("a fault before", Check.tell(x, 3, many == 0 ? -1 : 0, "#"), -1);
            Check.due(call, Check.tell(x, sort, at, text), -2);
            Check.due(call + ": fault(0)", x.fault(0), 0);
            Check.due(call + ": fault(1)", x.fault(1), -1);
            Check.due(call + ": the tape", x.end(1), -1);
        }
        Check.unchanged(call, x, before);
    }

    private static void faultAsked() {
        Document.says("Promise 5", "Of the latest text(), what 0: the FAULT, 0 without, 1: its place, NONE without.");
        TwoQuarries x = new TwoQuarries();
        Check.due("fault(0) before any text()", x.fault(0), 0);
        Check.due("fault(1) before any text()", x.fault(1), -1);
        Check.answered(x, Check.TALK, "", 0, -1, 0);
        Check.answered(x, Check.TALK, "#", 1, 0, -1);
        Check.answered(x, Check.YEAR, "knock 21;", 2, 6, -1);
        Check.answered(x, Check.LOG, "heard 0 0 0;".repeat(9), 3, 96, -1);
        Check.answered(x, Check.HILL, "air 7 5;", 4, 8, -1);
        Check.answered(x, Check.HILL, "air 5 3;", 5, 8, -1);
        x.feed(0, 0, 0, 0, 0);
        x.end(0);
        Check.due("fault(0) behind feed() and end()", x.fault(0), 5);
        Check.due("fault(1) behind feed() and end()", x.fault(1), 8);
        Check.answered(x, Check.HILL, "", 0, -1, 0);
    }

    private static void faultRefused() {
        Document.says("Promise 5", "NONE for another what.");
        TwoQuarries x = new TwoQuarries();
        Check.refused(x, Check.YEAR, "knock 21;", 2, 6);
        for (int what : new int[] {MIN, -2, -1, 2, 3, MAX}) {
            Check.due("fault(" + what + ")", x.fault(what), -1);
        }
        Check.due("fault(0) all the same", x.fault(0), 2);
    }

    private static void counted() {
        Document.says("Promise 37", "How many there are of a sort.");
        TwoQuarries x = new TwoQuarries();
        for (int round = 0; round <= 2; round++) {
            for (int sort = 0; sort < 4; sort++) {
                Check.due("count(" + sort + ")", x.count(sort), round);
            }
            for (int sort = 0; sort < 4 && round < 2; sort++) {
                Check.told(x, sort, -1, ONE_OF_A_SORT[sort], round);
                Check.due("count(" + sort + ") behind one more", x.count(sort), round + 1);
                Check.due("count of the next", x.count((sort + 1) % 4), round + (sort == 3 ? 1 : 0));
            }
        }
        Check.due("a third", Check.tell(x, 0, -1, ""), -2);
        Check.due("count(0) behind a third", x.count(0), 2);
    }

    private static void countRefused() {
        Document.says("Promise 37", "-2 for another one.");
        TwoQuarries x = new TwoQuarries();
        for (int sort : new int[] {MIN, -2, -1, 4, 5, MAX}) {
            Check.due("count(" + sort + ")", x.count(sort), -2);
        }
    }

    private static TwoQuarries oneOfEach() {
        TwoQuarries x = new TwoQuarries();
        for (int sort = 0; sort < 4; sort++) {
            Check.told(x, sort, -1, ONE_OF_A_SORT[sort], 0);
        }
        return x;
    }

    private static void images() {
        Document.says("Promise 38", "Image k (0 .. 2) is all that is told (the tape, the FAULT, too), as it is now:"
                + " true; false for another k.");
        for (int k = 0; k < 3; k++) {
            TwoQuarries x = oneOfEach();
            Check.refused(x, Check.TALK, "word 100;", 1, 5);
            Check.feed(x, "word 9;word 10;".getBytes(StandardCharsets.ISO_8859_1));
            String before = Check.allTold(x);
            Check.due("image(" + k + ")", x.image(k), true);
            Check.unchanged("image(" + k + ")", x, before);
            x.end(0);
            for (int sort = 0; sort < 4; sort++) {
                Check.told(x, sort, 0, OTHER_OF_A_SORT[sort], 0);
                Check.told(x, sort, -1, "", 1);
            }
            feedBlanks(x, 30);
            for (int other : new int[] {MIN, -2, -1, 3, 4, MAX}) {
                Check.due("image(" + other + ")", x.image(other), false);
            }
            Check.due("again(" + k + ")", x.again(k), true);
            Check.unchanged("image and again", x, before);
            Check.due("the tape again: not more", x.end(16), -1);
            Check.due("text() of the tape again", x.text(3, 0), 0);
            Check.due("its first word", x.talk(0, 0), 9);
            Check.due("its last word", x.talk(0, 1), 10);
        }
        TwoQuarries x = new TwoQuarries();
        Check.due("image of an empty object", x.image(0), true);
        Check.told(x, Check.HILL, -1, "", 0);
        Check.due("again an empty object", x.again(0), true);
        Check.due("again no hill", x.count(0), 0);
    }

    private static void again() {
        Document.says("Promise 39", "All that is as image k has it (other images stay): true; false if there is none"
                + " such.");
        TwoQuarries x = new TwoQuarries();
        Check.told(x, Check.TALK, -1, "word 50;", 0);
        String[] kept = new String[3];
        for (int k = 0; k < 3; k++) {
            String before = Check.allTold(x);
            for (int none = k; none < 3; none++) {
                Check.due("again(" + none + ") without an image", x.again(none), false);
            }
            Check.unchanged("again() without an image", x, before);
            Check.told(x, Check.TALK, 0, "word " + k + ";", 0);
            kept[k] = Check.allTold(x);
            x.image(k);
        }
        for (int k : new int[] {0, 1, 2, 2, 1, 0, 2, 0, 1}) {
            Check.due("again(" + k + ")", x.again(k), true);
            Check.unchanged("other images, " + k, x, kept[k]);
        }
        for (int none : new int[] {MIN, -2, -1, 3, MAX}) {
            Check.due("again(" + none + ")", x.again(none), false);
        }
        Check.unchanged("again() of no image", x, kept[1]);
        // what is told behind again() is told of the object, not of the image
        Check.told(x, Check.TALK, 0, "word 77;", 0);
        Check.due("again(1) once more", x.again(1), true);
        Check.unchanged("image 1", x, kept[1]);
        Check.told(x, Check.TALK, 0, "word 78;", 0);
        String anew = Check.allTold(x);
        Check.due("image(1) anew", x.image(1), true);
        Check.due("again(0)", x.again(0), true);
        Check.unchanged("image 0", x, kept[0]);
        Check.due("again(1) anew", x.again(1), true);
        Check.unchanged("image 1 anew", x, anew);
    }

    private static void twoOfASort() {
        Document.says("Term 1", "HILLS, at most 2 (sort 0), YEARS, at most 2 (1), LOGS, at most 2 (2), TALKS, at most"
                + " 2 (3), from 0 on.");
        TwoQuarries x = new TwoQuarries();
        for (int sort = 0; sort < 4; sort++) {
            Check.told(x, sort, -1, ONE_OF_A_SORT[sort], 0);
            Check.told(x, sort, -1, OTHER_OF_A_SORT[sort], 1);
            Check.due("a third of sort " + sort, Check.tell(x, sort, -1, ""), -2);
        }
        int[][] due = {{2, 3}, {7, 8}, {9, 18}, {7, 8}};
        for (int i = 0; i < 2; i++) {
            Check.due("hill " + i, x.hill(i, 0), due[0][i]);
            Check.due("year " + i, x.deed(i, 0, 1), due[1][i]);
            Check.due("log " + i, x.fact(i, 0, 0), due[2][i]);
            Check.due("talk " + i, x.talk(i, 0), due[3][i]);
        }
    }
}
