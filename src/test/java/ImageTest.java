/** Promises 38 and 39: image, again. */
public final class ImageTest {
    private ImageTest() {
    }

    public static void main(String[] args) {
        wrongNumbers();
        allThatIsTold();
        tapeAndFault();
        imagesStay();
        Check.close("ImageTest");
    }

    private static void wrongNumbers() {
        TwoQuarries x = new TwoQuarries();
        for (int k : new int[] {-1, 3, Integer.MAX_VALUE, Integer.MIN_VALUE}) {
            Check.due("image(" + k + ")", x.image(k), false);
            Check.due("again(" + k + ")", x.again(k), false);
        }
        Check.due("again(1) without an image", x.again(1), false);
        Check.due("image(1)", x.image(1), true);
        Check.due("again(0) without an image", x.again(0), false);
        Check.due("again(1)", x.again(1), true);
        Check.due("again(1), once more", x.again(1), true);
    }

    private static void allThatIsTold() {
        TwoQuarries x = Check.drawn("cc", "cc");
        Check.told(x, Check.YEAR, -1, "knock 1;", 0);
        Check.told(x, Check.LOG, -1, "heard 1 1 1;", 0);
        Check.told(x, Check.TALK, -1, "word 5;", 0);
        x.image(2);
        Check.told(x, Check.HILL, 0, Check.textOf("mmm", "ggg"), 0);
        Check.told(x, Check.HILL, -1, "", 1);
        Check.told(x, Check.YEAR, 0, "knock 9;knock 8;", 0);
        Check.told(x, Check.LOG, 0, "", 0);
        Check.told(x, Check.TALK, 0, "word 6;word 7;", 0);
        Check.told(x, Check.TALK, -1, "word 6;", 1);
        Check.due("again(2)", x.again(2), true);
        Check.due("hills", x.count(0), 1);
        Check.due("wide", x.hill(0, 0), 2);
        Check.due("worth", x.hill(0, 3), 4);
        Check.due("no second hill", x.hill(1, 0), -1);
        Check.due("deeds", x.deed(0, -1, 0), 1);
        Check.due("deed", x.deed(0, 0, 1), 1);
        Check.due("facts", x.fact(0, -1, 0), 1);
        Check.due("fact", x.fact(0, 0, 0), 9);
        Check.due("talks", x.count(3), 1);
        Check.due("words", x.talk(0, -1), 1);
        Check.due("word", x.talk(0, 0), 5);
    }

    private static void tapeAndFault() {
        TwoQuarries x = new TwoQuarries();
        Check.refused(x, Check.TALK, "word 1; word", 1, 12);
        Check.feed(x, "word 42;".getBytes());
        x.image(0);
        Check.due("text()", x.text(3, -1), 0);
        Check.due("fault(0)", x.fault(0), 0);
        x.feed(-1, -1, -1, -1, -1);
        x.again(0);
        Check.due("fault(0) again", x.fault(0), 1);
        Check.due("fault(1) again", x.fault(1), 12);
        Check.due("talks again", x.count(3), 0);
        Check.due("the tape again", x.end(9), -1);
        Check.due("the tape again", x.end(8), 8);
        Check.due("text() again", x.text(3, -1), 0);
        Check.due("word 0", x.talk(0, 0), 42);
    }

    private static void imagesStay() {
        TwoQuarries x = Check.drawn("cc", "cc");
        x.image(0);
        Check.told(x, Check.HILL, 0, Check.textOf("ccc", "ccc"), 0);
        x.image(1);
        Check.told(x, Check.HILL, 0, Check.textOf("cccc", "cccc"), 0);
        x.image(2);
        int[] wide = {2, 3, 4};
        for (int k : new int[] {0, 2, 1, 1, 0, 2}) {
            Check.due("again(" + k + ")", x.again(k), true);
            Check.due("wide again", x.hill(0, 0), wide[k]);
        }
        // what is told behind again() does not change the image
        x.again(0);
        Check.told(x, Check.HILL, 0, Check.textOf("ccccc", "ccccc"), 0);
        Check.due("wide anew", x.hill(0, 0), 5);
        x.again(0);
        Check.due("wide of image 0", x.hill(0, 0), 2);
        x.again(2);
        x.image(0);
        x.again(1);
        x.again(0);
        Check.due("image 0 taken anew", x.hill(0, 0), 4);
        Check.due("hill 0 can be used", x.thick(0), 4);
    }
}
