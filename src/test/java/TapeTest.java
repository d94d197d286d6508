/** Promises 1 to 5 and 37: a new object, feed, end, text, fault, count; and the faults of term 1. */
public final class TapeTest {
    private TapeTest() {
    }

    public static void main(String[] args) {
        newObject();
        feeding();
        ending();
        taking();
        highestByteFirst();
        tokens();
        numbers();
        tooMany();
        hillsThatCannotBe();
        laterOnesStrike();
        Check.close("TapeTest");
    }

    private static void newObject() {
        TwoQuarries x = new TwoQuarries();
        for (int sort = 0; sort < 4; sort++) {
            Check.due("count(" + sort + ") of a new object", x.count(sort), 0);
            Check.due("text(" + sort + ", 0) of a new object", x.text(sort, 0), -2);
        }
        Check.due("count(4)", x.count(4), -2);
        Check.due("count(-1)", x.count(-1), -2);
        Check.due("fault(0) of a new object", new TwoQuarries().fault(0), 0);
        Check.due("fault(1) of a new object", new TwoQuarries().fault(1), -1);
        for (int k = -1; k < 4; k++) {
            Check.due("again(" + k + ") of a new object", x.again(k), false);
        }
        Check.due("end(0) of a new object", x.end(0), 0);
        Check.due("end(1) of a new object", x.end(1), -1);
        Check.due("NONE", TwoQuarries.NONE, -1);
    }

    private static void feeding() {
        TwoQuarries x = new TwoQuarries();
        for (int i = 1; i <= 30; i++) {
            Check.due("feed() number " + i, x.feed(0, 0, 0, 0, 0), 20 * i);
        }
        Check.due("feed() beyond 600", x.feed(0, 0, 0, 0, 0), -1);
        Check.due("end(600)", x.end(600), 600);
        Check.due("end(581)", x.end(581), 581);
        Check.due("feed() to 601", x.feed(0, 0, 0, 0, 0), -1);
        Check.due("end(580)", x.end(580), 580);
        Check.due("feed() to 600", x.feed(0, 0, 0, 0, 0), 600);
    }

    private static void ending() {
        TwoQuarries x = new TwoQuarries();
        x.feed(0, 0, 0, 0, 0);
        Check.due("end(21)", x.end(21), -1);
        Check.due("end(-1)", x.end(-1), -1);
        Check.due("end(min)", x.end(Integer.MIN_VALUE), -1);
        Check.due("end(20)", x.end(20), 20);
        Check.due("end(7)", x.end(7), 7);
        Check.due("end(8)", x.end(8), -1);
        Check.due("feed() behind 7", x.feed(0, 0, 0, 0, 0), 27);
    }

    private static void taking() {
        TwoQuarries x = new TwoQuarries();
        Check.told(x, Check.TALK, -1, "word 3;", 0);
        Check.due("end(1) when the tape was taken", x.end(1), -1);
        Check.told(x, Check.TALK, -1, "word 4;word 5;", 1);
        Check.due("count(3)", x.count(3), 2);
        Check.refused(x, Check.LOG, "word 4;", 1, 0);
        Check.due("end(1) when the tape was refused", x.end(1), -1);
        notRead(x, "of a third talk", 3, -1);
        notRead(x, "in the place of no third talk", 3, 2);
        notRead(x, "at -2", 3, -2);
        notRead(x, "of no sort", 4, -1);
        notRead(x, "of sort -1", -1, -1);
        notRead(x, "in the place of no hill", 0, 0);
        Check.told(x, Check.TALK, 1, "word 6;", 1);
        Check.due("count(3) as before", x.count(3), 2);
        Check.due("talk(1, -1)", x.talk(1, -1), 1);
        Check.due("talk(1, 0)", x.talk(1, 0), 6);
        Check.due("talk(0, 0) as before", x.talk(0, 0), 3);
        Check.due("text() with a fault in the place of one", Check.tell(x, 3, 0, "word 9"), -1);
        Check.due("talk(0, 0) behind a fault", x.talk(0, 0), 3);
        Check.due("fault(2)", x.fault(2), -1);
        Check.due("fault(-1)", x.fault(-1), -1);
    }

    /** A text() that answers -2 reads nothing, has no fault even behind one, and takes the tape all the same. */
    private static void notRead(TwoQuarries x, String which, int sort, int at) {
        Check.refused(x, Check.LOG, "word 4;", 1, 0);
        Check.feed(x, "word 6;".getBytes());
        Check.due("text() " + which, x.text(sort, at), -2);
        Check.due("fault(0) of a text() " + which, x.fault(0), 0);
        Check.due("fault(1) of a text() " + which, x.fault(1), -1);
        Check.due("end(1) behind a text() " + which, x.end(1), -1);
        Check.due("feed() behind a text() " + which, x.feed(0, 0, 0, 0, 0), 20);
        Check.due("end(0)", x.end(0), 0);
        Check.due("talk(1, 0) behind a text() " + which, x.talk(1, 0), 4);
    }

    private static void highestByteFirst() {
        TwoQuarries x = new TwoQuarries();
        // 'word' ' 42;' and bytes that end() takes off
        Check.due("feed()", x.feed(0x776F7264, 0x2034323B, -1, -1, -1), 20);
        Check.due("end(8)", x.end(8), 8);
        Check.due("text(3, -1)", x.text(3, -1), 0);
        Check.due("talk(0, 0)", x.talk(0, 0), 42);
        x.feed(0xFF000000, 0, 0, 0, 0);
        x.end(1);
        Check.due("text() of byte 255", x.text(3, -1), -1);
        Check.due("fault(0) of byte 255", x.fault(0), 1);
        Check.due("fault(1) of byte 255", x.fault(1), 0);
    }

    private static void tokens() {
        TwoQuarries x = new TwoQuarries();
        Check.refused(x, Check.HILL, "size 4 4", 1, 8);
        Check.refused(x, Check.HILL, "size 4 4 \n", 1, 10);
        Check.refused(x, Check.HILL, "size 4;", 1, 6);
        Check.refused(x, Check.HILL, "size 4 4 4;", 1, 9);
        Check.refused(x, Check.HILL, "size 4 4;;", 1, 9);
        Check.refused(x, Check.HILL, "size 4 4; 3", 1, 10);
        Check.refused(x, Check.HILL, "sizes 4 4;", 1, 0);
        Check.refused(x, Check.HILL, "siz 4 4;", 1, 0);
        Check.refused(x, Check.HILL, "Size 4 4;", 1, 0);
        Check.refused(x, Check.HILL, "size\t4 4;", 1, 4);
        Check.refused(x, Check.HILL, "size 4 4;north 0 0;", 1, 9);
        Check.refused(x, Check.HILL, "size 004 4;", 1, 5);
        Check.refused(x, Check.HILL, "size 4 4004;", 1, 7);
        Check.refused(x, Check.HILL, "size 4 x;", 1, 7);
        Check.refused(x, Check.HILL, "size 99 99; chalk 9 9; #", 1, 23);
        Check.refused(x, Check.YEAR, "north 0 0; knock 1 1;", 1, 19);
        Check.refused(x, Check.YEAR, "size 4 4;", 1, 0);
        Check.refused(x, Check.LOG, "heard 0 0;", 1, 9);
        Check.refused(x, Check.LOG, "heard 99 0 0; heard", 1, 19);
        Check.refused(x, Check.TALK, "word word 1;", 1, 5);
        Check.refused(x, Check.TALK, "word 100;", 1, 5);
        Check.refused(x, Check.TALK, "word 1;\0", 1, 7);
        Check.due("count(0) behind faults", x.count(0), 0);
        Check.told(x, Check.HILL, -1, "", 0);
        Check.told(x, Check.HILL, -1, " \n ", 1);
        Check.told(x, Check.HILL, 0, "size4 03;marble\n0 1\n;prop 0 00 ;", 0);
        Check.due("hill(0, 0)", x.hill(0, 0), 4);
        Check.due("hill(0, 1)", x.hill(0, 1), 3);
        Check.due("hill(0, 104)", x.hill(0, 104), 2);
        Check.due("hill(0, 100)", x.hill(0, 100), 4);
        Check.told(x, Check.YEAR, -1, "", 0);
        Check.told(x, Check.LOG, -1, "", 0);
        Check.told(x, Check.TALK, -1, "", 0);
    }

    private static void numbers() {
        TwoQuarries x = new TwoQuarries();
        Check.refused(x, Check.HILL, "size 1 4;", 2, 5);
        Check.refused(x, Check.HILL, "size 9 4;", 2, 5);
        Check.refused(x, Check.HILL, "size 2 1;", 2, 7);
        Check.refused(x, Check.HILL, "size 2 7;", 2, 7);
        Check.refused(x, Check.HILL, "size 2 2;air 8 0;", 2, 13);
        Check.refused(x, Check.HILL, "size 2 2;air 0 6;", 2, 15);
        Check.refused(x, Check.HILL, "prop 8 6;size 0 0;", 2, 5);
        Check.refused(x, Check.YEAR, "knock 20;knock 21;", 2, 15);
        Check.refused(x, Check.YEAR, "south 7 5;south 8 5;", 2, 16);
        Check.refused(x, Check.YEAR, "prop 7 6;", 2, 7);
        Check.refused(x, Check.LOG, "heard 8 0 0;", 2, 6);
        Check.refused(x, Check.LOG, "heard 7 6 0;", 2, 8);
        Check.refused(x, Check.LOG, "heard 7 5 10;", 2, 10);
        Check.told(x, Check.HILL, -1, "size 8 6;size 2 2;", 0);
        Check.told(x, Check.YEAR, -1, "north 7 5;knock 20;knock 00;", 0);
        Check.told(x, Check.LOG, -1, "heard 7 5 9;heard 0 0 0;", 0);
        Check.told(x, Check.TALK, -1, "word 0;word 99;", 0);
    }

    private static void tooMany() {
        TwoQuarries x = new TwoQuarries();
        String deeds = "knock 0;".repeat(40);
        Check.told(x, Check.YEAR, -1, deeds, 0);
        Check.due("deed(0, -1, 0)", x.deed(0, -1, 0), 40);
        Check.refused(x, Check.YEAR, deeds + " knock 99;knock 0;", 3, 321);
        Check.refused(x, Check.YEAR, "knock 99;" + "knock 0;".repeat(40), 2, 6);
        Check.refused(x, Check.YEAR, deeds.replace("k 0;k", "k 0;\nk") + "knock 0;knock", 1, 372);
        String facts = "heard 0 0 0;".repeat(8);
        Check.told(x, Check.LOG, -1, facts, 0);
        Check.refused(x, Check.LOG, facts + "heard 9 0 0;", 3, 96);
        String words = "word 1;".repeat(8);
        Check.told(x, Check.TALK, -1, words, 0);
        Check.refused(x, Check.TALK, words + "word 1;word 1;", 3, 56);
        Check.told(x, Check.HILL, -1, "air 0 0;".repeat(75), 0);
    }

    private static void hillsThatCannotBe() {
        TwoQuarries x = new TwoQuarries();
        Check.refused(x, Check.HILL, "air 6 0;", 4, 8);
        Check.refused(x, Check.HILL, "chalk 0 4; ", 4, 11);
        Check.refused(x, Check.HILL, "chalk 6 3;size 6 4;", 4, 19);
        Check.refused(x, Check.HILL, "air 0 1;air 6 0;", 4, 16);
        Check.told(x, Check.HILL, -1, "chalk 6 3;size 7 4;", 0);
        Check.refused(x, Check.HILL, "air 0 1;", 5, 8);
        Check.refused(x, Check.HILL, "prop 0 0;air 0 1;\n", 5, 18);
        Check.refused(x, Check.HILL, "size 3 2;air 0 0;air 1 1;", 5, 25);
        Check.told(x, Check.HILL, -1, "size 3 2;air 1 1;", 1);
        // eight wide: a row's last cell is not left of the next row's first one
        Check.refused(new TwoQuarries(), Check.HILL, "size 8 3;air 0 2;", 5, 17);
    }

    private static void laterOnesStrike() {
        TwoQuarries x = new TwoQuarries();
        Check.told(x, Check.HILL, -1, "size 2 2;marble 0 1;granite 0 1;size 3 2;air 0 1;prop 0 1;", 0);
        Check.due("hill(0, 0)", x.hill(0, 0), 3);
        Check.due("hill(0, 103)", x.hill(0, 103), 4);
        Check.told(x, Check.HILL, 0, "size 2 2;air 0 1;chalk 0 1;", 0);
        Check.due("hill(0, 102)", x.hill(0, 102), 1);
        Check.due("hill(0, 2)", x.hill(0, 2), 4);
    }
}
