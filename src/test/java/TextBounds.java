/** The edges of term 1: what a text may be, token by token, what it tells, and which fault it has where. */
final class TextBounds {
    private static final String[] HILL_WORDS = {"size", "air", "chalk", "marble", "granite", "prop"};
    private static final String[] YEAR_WORDS = {"north", "south", "prop", "knock"};
    private static final int[] LIMITS = {40, 8, 8};
    private static final String[] LINES = {"knock 0;", "heard 0 0 0;", "word 0;"};

    private TextBounds() {
    }

    static void tryAll() {
        sizes();
        kinds();
        stones();
        sides();
        deeds();
        facts();
        words();
        tokens();
        longTokens();
        hillText();
        yearText();
        logText();
        talkText();
        laterStrike();
        furtherOnes();
        firstToken();
        end();
        numbers();
        tooMany();
        cellsNotThere();
        notStanding();
    }

    /** Tells a text that is due to have a fault at a place, or none (0). */
    private static TwoQuarries judged(int sort, String text, int fault, int place) {
        TwoQuarries x = new TwoQuarries();
        if (fault == 0) {
            Check.told(x, sort, -1, text, 0);
        } else {
            Check.refused(x, sort, text, fault, place);
        }
        return x;
    }

    private static void sizes() {
        Document.says("Term 1", "A HILL is WIDE, 2 .. 8, and HIGH, 2 .. 6 (6 and 4 at first): CELLS, numbered WIDE"
                + " times row and column, row 0 on top, each of a KIND: 0 AIR, 1 CHALK (at first), 2 MARBLE, 3"
                + " GRANITE, 4 PROP.");
        for (int wide = 2; wide <= 8; wide++) {
            for (int high = 2; high <= 6; high++) {
                ofSize("size " + wide + " " + high + ";", wide, high);
            }
        }
        ofSize("", 6, 4);
        ofSize("chalk 0 0;", 6, 4);
        int[][] wrong = {{0, 4}, {1, 4}, {9, 4}, {10, 6}, {99, 2}};
        for (int[] size : wrong) {
            judged(Check.HILL, "size " + size[0] + " " + size[1] + ";", 2, 5);
        }
        for (int high : new int[] {0, 1, 7, 8, 10, 99}) {
            judged(Check.HILL, "size 8 " + high + ";", 2, 7);
        }
    }

    private static void ofSize(String text, int wide, int high) {
        TwoQuarries x = judged(Check.HILL, text, 0, -1);
        String name = "'" + text + "': ";
        Check.due(name + "wide", x.hill(0, 0), wide);
        Check.due(name + "high", x.hill(0, 1), high);
        Check.due(name + "all chalk", x.hill(0, 2), wide * high);
        Check.due(name + "worth", x.hill(0, 3), wide * high);
        for (int cell = 0; cell < wide * high; cell++) {
            Check.due(name + "cell " + cell, x.hill(0, 100 + cell), 1);
            // one granite by itself: its number is WIDE times its row and its column
            int column = cell % wide;
            int row = cell / wide;
            Check.told(x, Check.HILL, cell == 0 ? -1 : 1, text + "granite " + column + " " + row + ";", 1);
            Check.due(name + "granite at " + cell, x.hill(1, 100 + cell), 3);
            Check.due(name + "one granite", x.hill(1, 3), wide * high + 1);
        }
        Check.due(name + "no further cell", x.hill(0, 100 + wide * high), -1);
    }

    private static void kinds() {
        Document.says("Term 1", "each of a KIND: 0 AIR, 1 CHALK (at first), 2 MARBLE, 3 GRANITE, 4 PROP.");
        TwoQuarries x = judged(Check.HILL, "size 6 2;air 0 0;chalk 1 0;marble 2 0;granite 3 0;prop 4 0;", 0, -1);
        int[] kinds = {0, 1, 2, 3, 4, 1};
        for (int cell = 0; cell < kinds.length; cell++) {
            Check.due("kind " + cell, x.hill(0, 100 + cell), kinds[cell]);
        }
    }

    private static void stones() {
        Document.says("Term 1", "STONES are CHALK, MARBLE, GRANITE; their WORTH is 1, 4, 2, their BLOWS are 1, 2, 3.");
        int[] stones = {0, 1, 1, 1, 0};
        int[] worth = {0, 1, 4, 2, 0};
        int[] blows = {0, 1, 2, 3, 0};
        for (int kind = 0; kind < 5; kind++) {
            String word = HILL_WORDS[1 + kind];
            TwoQuarries x = judged(Check.HILL, "size 2 2;prop 0 1;prop 1 1;air 1 0;" + word + " 0 0;", 0, -1);
            Check.told(x, Check.YEAR, -1, "north 0 0;", 0);
            Check.due(word + ": stones", x.hill(0, 2), stones[kind]);
            Check.due(word + ": worth", x.hill(0, 3), worth[kind]);
            Check.due(word + ": may be cut", x.stop(0, 0), stones[kind]);
            Check.due(word + ": worth of who cuts it", x.state(0, 0, stones[kind], 0), worth[kind]);
            Check.due(word + ": blows of who cuts it", x.state(0, 0, stones[kind], 2), blows[kind]);
        }
    }

    private static void sides() {
        Document.says("Term 1", "SIDES: 0 NORTH, who comes from the left, 1 SOUTH, from the right.");
        TwoQuarries x = Check.drawn("ccc", "ccc");
        for (int side = 0; side < 2; side++) {
            Check.due("cuts of side " + side, x.cuts(0, side, false, -1), 2);
            Check.due("the upper one of side " + side, x.cuts(0, side, false, 0), 2 * side);
            Check.due("the lower one of side " + side, x.cuts(0, side, false, 1), 3 + 2 * side);
        }
    }

    private static void deeds() {
        Document.says("Term 1", "A YEAR has DEEDS, at most 40, from 0 on.");
        for (int many : new int[] {0, 1, 2, 39, 40}) {
            TwoQuarries x = judged(Check.YEAR, "knock 3;".repeat(many), 0, -1);
            Check.due(many + " deeds", x.deed(0, -1, 0), many);
            for (int k = 0; k < many; k++) {
                Check.due("deed " + k + " of " + many, x.deed(0, k, 1), 3);
            }
            Check.due("no deed " + many, x.deed(0, many, 1), -2);
        }
        judged(Check.YEAR, "knock 3;".repeat(41), 3, 320);
    }

    private static void facts() {
        Document.says("Term 1", "A LOG has FACTS, at most 8, from 0 on: at a CELL of a HILL 8 wide and 6 high so much"
                + " was HEARD, 0 .. 9.");
        for (int many = 0; many <= 8; many++) {
            TwoQuarries x = judged(Check.LOG, "heard 3 2 7;".repeat(many), 0, -1);
            Check.due(many + " facts", x.fact(0, -1, 0), many);
            for (int k = 0; k < many; k++) {
                Check.due("cell of fact " + k + " of " + many, x.fact(0, k, 0), 19);
                Check.due("fact " + k + " of " + many, x.fact(0, k, 1), 7);
            }
            Check.due("no fact " + many, x.fact(0, many, 1), -2);
        }
        judged(Check.LOG, "heard 3 2 7;".repeat(9), 3, 96);
        TwoQuarries x = new TwoQuarries();
        for (int cell = 0; cell < 48; cell++) {
            Check.told(x, Check.LOG, cell == 0 ? -1 : 0, "heard " + cell % 8 + " " + cell / 8 + " " + cell % 10 + ";", 0);
            Check.due("the cell of a fact", x.fact(0, 0, 0), cell);
            Check.due("how much of a fact", x.fact(0, 0, 1), cell % 10);
        }
    }

    private static void words() {
        Document.says("Term 1", "A TALK has WORDS, at most 8, from 0 on, each so OFTEN, 0 .. 99.");
        for (int many = 0; many <= 8; many++) {
            TwoQuarries x = judged(Check.TALK, "word 7;".repeat(many), 0, -1);
            Check.due(many + " words", x.talk(0, -1), many);
            for (int k = 0; k < many; k++) {
                Check.due("word " + k + " of " + many, x.talk(0, k), 7);
            }
            Check.due("no word " + many, x.talk(0, many), -1);
        }
        judged(Check.TALK, "word 7;".repeat(9), 3, 56);
        for (int often = 0; often < 100; often++) {
            Check.due("word " + often, judged(Check.TALK, "word " + often + ";", 0, -1).talk(0, 0), often);
        }
    }

    private static void tokens() {
        Document.says("Term 1", "TOKENS, as long as they go, blanks (10, 32) between: words, rows of letters a .. z;"
                + " NUMBERS, 1 or 2 digits; ; one byte.");
        String text = "word 5 ; word 6 ;";
        for (int sign = 0; sign < 256; sign++) {
            boolean blank = sign == 10 || sign == 32;
            boolean letter = sign >= 'a' && sign <= 'z';
            boolean digit = sign >= '0' && sign <= '9';
            String b = String.valueOf((char) sign);
            // each byte alone, ahead of a text, within and behind a word, behind a number, behind a ;
            judged(Check.TALK, b, blank ? 0 : 1, 0);
            judged(Check.TALK, b + text, blank ? 0 : 1, 0);
            judged(Check.TALK, "wo" + b + "rd 5;", 1, 0);
            judged(Check.TALK, "word" + b + "5;", blank || digit ? 0 : 1, letter ? 0 : 4);
            judged(Check.TALK, "word 5" + b + ";", blank || digit ? 0 : 1, sign == ';' ? 7 : 6);
            judged(Check.TALK, "word 5;" + b + "word 6;", blank ? 0 : 1, 7);
            judged(Check.TALK, text + b, blank ? 0 : 1, text.length());
        }
        TwoQuarries x = judged(Check.TALK, "word\n\n5 \n ;word12;  word 07;\n", 0, -1);
        int[] often = {5, 12, 7};
        for (int k = 0; k < often.length; k++) {
            Check.due("word " + k + " among blanks", x.talk(0, k), often[k]);
        }
        Check.due("words among blanks", x.talk(0, -1), 3);
        judged(Check.TALK, " ".repeat(600), 0, -1);
        judged(Check.TALK, "\n".repeat(599) + "!", 1, 599);
    }

    private static void longTokens() {
        String[][] words = {HILL_WORDS, YEAR_WORDS, {"heard"}, {"word"}};
        Document.says("Term 1", "words, rows of letters a .. z");
        for (int sort = 0; sort < 4; sort++) {
            for (String word : words[sort]) {
                String numbers = word.equals("knock") || sort == 3 ? " 2;" : sort == 2 ? " 2 2 2;" : " 2 2;";
                judged(sort, word + numbers, 0, -1);
                for (int at = 0; at < word.length(); at++) {
                    // another letter, one less, one more
                    judged(sort, word.substring(0, at) + "x" + word.substring(at + 1) + numbers, 1, 0);
                    judged(sort, word.substring(0, at) + word.substring(at + 1) + numbers, 1, 0);
                    judged(sort, word.substring(0, at) + "x" + word.substring(at) + numbers, 1, 0);
                }
                judged(sort, word + "s" + numbers, 1, 0);
                judged(sort, word + word + numbers, 1, 0);
            }
        }
        Document.says("Term 1", "TOKENS, as long as they go");
        judged(Check.TALK, "wordword 5;", 1, 0);
        judged(Check.TALK, "w ord 5;", 1, 0);
        judged(Check.TALK, "word 1 2;", 1, 7);
        judged(Check.TALK, "w".repeat(600), 1, 0);
        Document.says("Term 1", "(a longer row of digits is no token).");
        judged(Check.TALK, "word 000;", 1, 5);
        judged(Check.TALK, "word 100;", 1, 5);
        judged(Check.TALK, "word 1;\n001", 1, 8);
        judged(Check.TALK, "word " + "9".repeat(595), 1, 5);
        judged(Check.LOG, "heard 1 2 003;", 1, 10);
        judged(Check.YEAR, "knock 020;", 1, 6);
        judged(Check.HILL, "size 02 006;", 1, 8);
        Check.due("two digits are a number", judged(Check.YEAR, "knock 08;", 0, -1).deed(0, 0, 1), 8);
    }

    private static void hillText() {
        Document.says("Term 1", "A HILL's text: {('size' | 'air' | 'chalk' | 'marble' | 'granite' | 'prop') NUMBER"
                + " NUMBER ';'} (size: WIDE, HIGH; air and so on: a column, 0 .. 7, a row, 0 .. 5).");
        for (String word : HILL_WORDS) {
            boolean size = word.equals("size");
            int at = word.length() + 6;
            for (int n = 0; n < 100; n++) {
                boolean column = size ? n >= 2 && n <= 8 : n <= 7;
                boolean row = size ? n >= 2 && n <= 6 : n <= 5;
                // behind it the hill is the largest, and chalk again where nothing else was told
                String wide = word + " " + n + (size ? " 4;" : " 0;") + "size 8 6;";
                judged(Check.HILL, wide, column ? 0 : 2, word.length() + 1);
                String high = word + (size ? " 4 " : " 3 ") + n + ";size 8 6;";
                judged(Check.HILL, high, row ? 0 : 2, word.length() + 3);
            }
            broken(Check.HILL, word, 2);
        }
        for (String word : new String[] {"north", "south", "knock", "heard", "word", "cell", "stone", "sizes", "ai", "a"}) {
            judged(Check.HILL, word + " 2 2;", 1, 0);
            judged(Check.HILL, "size 2 2;" + word + " 2 2;", 1, 9);
        }
    }

    /** A line with a word less, a number less or more, without its ;, and with two of them. */
    private static void broken(int sort, String word, int numbers) {
        String line = word + " 2".repeat(numbers);
        int end = line.length();
        judged(sort, line, 1, end);
        judged(sort, line + " \n", 1, end + 2);
        judged(sort, line + " 2;", 1, end + 1);
        judged(sort, line + ";;", 1, end + 1);
        judged(sort, line + ";2", 1, end + 1);
        judged(sort, line + " " + word, 1, end + 1);
        judged(sort, word + " 2".repeat(numbers - 1) + ";", 1, end - 2);
        judged(sort, word + ";", 1, word.length());
        judged(sort, word, 1, word.length());
        judged(sort, "2 " + line + ";", 1, 0);
        judged(sort, ";", 1, 0);
    }

    private static void yearText() {
        Document.says("Term 1", "A YEAR's text: {(('north' | 'south' | 'prop') NUMBER NUMBER | 'knock' NUMBER) ';'}"
                + " (a column, a row; knock: 0 .. 20).");
        for (int kind = 0; kind < 3; kind++) {
            String word = YEAR_WORDS[kind];
            for (int n = 0; n < 100; n++) {
                judged(Check.YEAR, word + " " + n + " 0;", n <= 7 ? 0 : 2, word.length() + 1);
                judged(Check.YEAR, word + " 0 " + n + ";", n <= 5 ? 0 : 2, word.length() + 3);
            }
            TwoQuarries x = judged(Check.YEAR, word + " 7 5;", 0, -1);
            int[] due = {kind, 7, 5};
            for (int what = 0; what < 3; what++) {
                Check.due(word + ": " + what, x.deed(0, 0, what), due[what]);
            }
            broken(Check.YEAR, word, 2);
        }
        for (int n = 0; n < 100; n++) {
            TwoQuarries x = judged(Check.YEAR, "knock " + n + ";", n <= 20 ? 0 : 2, 6);
            Check.due("knock " + n, x.deed(0, 0, 1), n <= 20 ? n : -2);
        }
        broken(Check.YEAR, "knock", 1);
        String[] others = {"size", "air", "chalk", "marble", "granite", "heard", "word", "east", "props", "nort"};
        for (String word : others) {
            judged(Check.YEAR, word + " 2 2;", 1, 0);
        }
    }

    private static void logText() {
        Document.says("Term 1", "A LOG's text: {'heard' NUMBER NUMBER NUMBER ';'} (a column, a row, how much).");
        for (int n = 0; n < 100; n++) {
            judged(Check.LOG, "heard " + n + " 0 0;", n <= 7 ? 0 : 2, 6);
            judged(Check.LOG, "heard 0 " + n + " 0;", n <= 5 ? 0 : 2, 8);
            judged(Check.LOG, "heard 0 0 " + n + ";", n <= 9 ? 0 : 2, 10);
        }
        broken(Check.LOG, "heard", 3);
        for (String word : new String[] {"size", "prop", "north", "knock", "word", "hear", "heards"}) {
            judged(Check.LOG, word + " 1 1 1;", 1, 0);
        }
    }

    private static void talkText() {
        Document.says("Term 1", "A TALK's text: {'word' NUMBER ';'}.");
        broken(Check.TALK, "word", 1);
        for (String word : new String[] {"size", "prop", "north", "knock", "heard", "wor", "words"}) {
            judged(Check.TALK, word + " 1;", 1, 0);
        }
        for (int sort = 0; sort < 4; sort++) {
            // braces: a text of no line, too
            judged(sort, "", 0, -1);
            judged(sort, " ", 0, -1);
        }
    }

    private static void laterStrike() {
        Document.says("Term 1", "Later ones strike (of a CELL, too), but DEEDS, FACTS, WORDS, which are further ones.");
        TwoQuarries x = judged(Check.HILL, "size 2 6;size 8 2;size 3 2;", 0, -1);
        Check.due("the last size's wide", x.hill(0, 0), 3);
        Check.due("the last size's high", x.hill(0, 1), 2);
        for (int first = 0; first < 5; first++) {
            for (int last = 0; last < 5; last++) {
                String cells = HILL_WORDS[1 + first] + " 1 0;granite 0 1;" + HILL_WORDS[1 + last] + " 1 0;";
                Check.told(x, Check.HILL, 0, "size 2 2;" + cells, 0);
                Check.due(cells + " the last kind", x.hill(0, 101), last);
                Check.due(cells + " another cell", x.hill(0, 102), 3);
            }
        }
        Check.told(x, Check.HILL, 0, "marble 1 1;size 3 2;", 0);
        Check.due("a size behind a cell leaves it as told", x.hill(0, 104), 2);
        Check.told(x, Check.HILL, 0, "size 8 6;marble 1 1;size 2 2;", 0);
        Check.due("a cell told in a larger hill", x.hill(0, 103), 2);
        anew();
    }

    /** Nothing of an earlier text is left, were it taken or not: not in the hill, and not beside it. */
    private static void anew() {
        for (int kind = 1; kind < HILL_WORDS.length; kind++) {
            StringBuilder full = new StringBuilder("size 8 6;");
            for (int cell = 0; cell < 48; cell++) {
                full.append(HILL_WORDS[kind]).append(' ').append(cell % 8).append(' ').append(cell / 8).append(';');
            }
            TwoQuarries x = judged(Check.HILL, full.toString(), 0, -1);
            Check.told(x, Check.HILL, 0, "", 0);
            Check.due("wide anew", x.hill(0, 0), 6);
            Check.due("high anew", x.hill(0, 1), 4);
            Check.due("chalk alone", x.hill(0, 2), 24);
            Check.due("worth of chalk alone", x.hill(0, 3), 24);
            String faulty = "size 8 6;" + HILL_WORDS[kind] + " 7 0;air 7 5;";
            Check.refused(x, Check.HILL, faulty, 5, faulty.length());
            Check.told(x, Check.HILL, 0, "size 8 6;", 0);
            Check.due("chalk alone behind a fault", x.hill(0, 3), 48);
        }
    }

    private static void furtherOnes() {
        Document.says("Term 1", "but DEEDS, FACTS, WORDS, which are further ones.");
        TwoQuarries x = new TwoQuarries();
        Check.told(x, Check.YEAR, -1, "prop 1 1;prop 1 1;knock 3;prop 1 1;", 0);
        Check.told(x, Check.LOG, -1, "heard 1 1 5;heard 1 1 6;heard 1 1 5;", 0);
        Check.told(x, Check.TALK, -1, "word 4;word 4;", 0);
        Check.due("deeds alike are further ones", x.deed(0, -1, 0), 4);
        Check.due("facts of one cell are further ones", x.fact(0, -1, 0), 3);
        Check.due("the first of them", x.fact(0, 0, 1), 5);
        Check.due("the second of them", x.fact(0, 1, 1), 6);
        Check.due("words alike are further ones", x.talk(0, -1), 2);
        Check.told(x, Check.TALK, 0, "word 9;", 0);
        Check.due("a text in the place of one begins anew", x.talk(0, -1), 1);
    }

    private static void firstToken() {
        Document.says("Term 1", "FAULTS of all, with places (a token's first byte; the end's): 1 the first byte or"
                + " token with which no text goes on");
        judged(Check.HILL, "size 3 3; bad 1 1; # ;", 1, 10);
        judged(Check.HILL, "size 3 3; # bad", 1, 10);
        judged(Check.HILL, "size 3 3;air 1 size", 1, 15);
        judged(Check.HILL, "size \n\n bad 3;", 1, 8);
        judged(Check.LOG, "heard 1 2 heard 1 2 3;", 1, 10);
        // it goes before all others, wherever they are
        judged(Check.HILL, "size 99 99;air 9 9;x", 1, 19);
        judged(Check.YEAR, "knock 99;".repeat(41) + ";", 1, 369);
        judged(Check.HILL, "size 2 2;air 7 5;air 0 1;?", 1, 25);
        Document.says("Term 1", "the end's");
        String text = "size 4 3; prop 3 2 ;";
        // behind a word that is not yet whole no text goes on; else it is the end that comes too early
        int[] places = {-1, 0, 0, 0, 4, 5, 6, 7, 8, -1, -1, 10, 10, 10, 14, 15, 16, 17, 18, 19, -1};
        for (int n = 0; n < places.length; n++) {
            judged(Check.HILL, text.substring(0, n), places[n] < 0 ? 0 : 1, places[n]);
        }
    }

    private static void end() {
        Document.says("Term 1", "(a token's first byte; the end's)");
        for (int length : new int[] {6, 7, 20, 21, 599, 600}) {
            judged(Check.TALK, "word 5" + " ".repeat(length - 6), 1, length);
        }
        judged(Check.HILL, "air 0 3;" + "\n".repeat(592), 5, 600);
        judged(Check.HILL, "air 6 0;" + "\n".repeat(592), 4, 600);
    }

    private static void numbers() {
        Document.says("Term 1", "If there is none, the first by place, of one place the least: 2 a NUMBER that can't"
                + " be (as above; a line with such a NUMBER tells its DEED, FACT, WORD all the same);");
        judged(Check.HILL, "size 9 7;", 2, 5);
        judged(Check.HILL, "size 8 7;size 9 9;", 2, 7);
        judged(Check.HILL, "prop 7 5;prop 8 5;prop 9 9;", 2, 14);
        judged(Check.YEAR, "north 7 6;south 8 0;", 2, 8);
        judged(Check.YEAR, "knock 20;\n knock 21;", 2, 17);
        judged(Check.LOG, "heard 8 6 10;", 2, 6);
        judged(Check.LOG, "heard 7 5 10;", 2, 10);
        // a later line that strikes does not help
        judged(Check.HILL, "size 1 2;size 2 2;", 2, 5);
        judged(Check.HILL, "size 2 9;size 2 2;air 0 1;", 2, 7);
        judged(Check.HILL, "air 8 0;air 0 3;", 2, 4);
        for (int sort = 1; sort < 3; sort++) {
            String bad = sort == 1 ? "knock 21;" : "heard 8 0 0;";
            int place = bad.indexOf(' ') + 1;
            // ahead of one too many, and as the one too many itself: the line's word is there first
            String full = LINES[sort - 1].repeat(LIMITS[sort - 1] - 1);
            judged(sort, bad + full, 2, place);
            judged(sort, bad + full + LINES[sort - 1], 2, place);
            judged(sort, full + bad, 2, full.length() + place);
            judged(sort, full + bad + LINES[sort - 1], 2, full.length() + place);
            judged(sort, full + LINES[sort - 1] + bad, 3, full.length() + LINES[sort - 1].length());
        }
    }

    private static void tooMany() {
        Document.says("Term 1", "3 a 41st DEED, a 9th FACT, a 9th WORD, at its first token.");
        for (int sort = 1; sort < 4; sort++) {
            String line = LINES[sort - 1];
            String full = line.repeat(LIMITS[sort - 1]);
            int end = full.length();
            judged(sort, full, 0, -1);
            judged(sort, full + " \n", 0, -1);
            judged(sort, full + " \n " + line, 3, end + 3);
            judged(sort, full + line + line, 3, end);
            judged(sort, full + line + line.substring(0, 5), 1, end + line.length() + 5);
        }
        judged(Check.HILL, "air 0 0;".repeat(75), 0, -1);
        judged(Check.HILL, "size 6 4;".repeat(66), 0, -1);
    }

    private static void cellsNotThere() {
        Document.says("Term 1", "If there is none of these, at the end's place, of a HILL: 4 a CELL that was told of"
                + " and is not there;");
        for (int kind = 1; kind < HILL_WORDS.length; kind++) {
            String word = HILL_WORDS[kind];
            int end = word.length() + 5;
            judged(Check.HILL, word + " 6 0;", 4, end);
            judged(Check.HILL, word + " 0 4;", 4, end);
            judged(Check.HILL, word + " 7 5; ", 4, end + 1);
            judged(Check.HILL, word + " 5 0;", 0, -1);
            judged(Check.HILL, "size 2 2;" + word + " 2 1;", 4, end + 9);
            judged(Check.HILL, "size 2 2;" + word + " 1 2;", 4, end + 9);
            judged(Check.HILL, word + " 1 2;size 2 2;", 4, end + 9);
            judged(Check.HILL, word + " 7 0;size 8 2;", 0, -1);
            judged(Check.HILL, word + " 7 0;size 7 2;", 4, end + 9);
            // told of once more: as what, does not matter
            judged(Check.HILL, word + " 6 0;chalk 6 0;", 4, end + 10);
            // before a stone that does not stand, of one place the least
            judged(Check.HILL, "air 0 3;" + word + " 6 0;", 4, end + 8);
            judged(Check.HILL, word + " 6 0;air 0 3;", 4, end + 8);
        }
    }

    private static void notStanding() {
        Document.says("Term 1", "5 a STONE or a PROP that does not STAND.");
        for (int kind = 2; kind < HILL_WORDS.length; kind++) {
            String upper = HILL_WORDS[kind] + " 0 0;";
            String text = "size 2 2;air 0 1;" + upper;
            judged(Check.HILL, text, 5, text.length());
            judged(Check.HILL, text + "\n\n", 5, text.length() + 2);
            judged(Check.HILL, text + "air 0 0;", 0, -1);
            judged(Check.HILL, text + "prop 0 1;", 0, -1);
        }
        judged(Check.HILL, "size 3 2;air 1 1;", 0, -1);
        judged(Check.HILL, "size 4 2;air 1 1;air 2 1;", 0, -1);
        judged(Check.HILL, "size 4 2;air 1 1;air 2 1;air 2 0;", 5, 33);
        judged(Check.HILL, "size 3 2;air 2 1;", 5, 17);
        // a year's cells need no hill, a log's are of a hill of the largest size
        judged(Check.YEAR, "north 7 5;south 7 5;prop 7 5;", 0, -1);
        judged(Check.LOG, "heard 7 5 0;", 0, -1);
    }
}
