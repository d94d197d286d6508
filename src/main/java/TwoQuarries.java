/**
 * Two sides quarry one hill, from left and from right. The document of the project says, promise by
 * promise, what each call answers; words in capitals there are the plain names here.
 *
 * <p>All rows are made in the constructor and used again, so that no later call makes an object.
 */
public final class TwoQuarries {
    public static final int NONE = -1;

    private static final int UNKNOWN = -2;
    private static final int NO_DUEL = -1000;

    private static final int HILLS = 0;
    private static final int YEARS = 1;
    private static final int LOGS = 2;
    private static final int TALKS = 3;
    private static final int SORTS = 4;
    private static final int OF_A_SORT = 2;
    private static final int IMAGES = 3;

    private static final int TAPE = 600;
    private static final int FED = 20;
    private static final int DEEDS = 40;
    private static final int FACTS = 8;
    private static final int WORDS = 8;

    private static final int NORTH = 0;
    private static final int SOUTH = 1;
    private static final int SHORE = 2;
    private static final int KNOCK = 3;

    private static final int AIR = 0;
    private static final int CHALK = 1;
    private static final int MARBLE = 2;
    private static final int GRANITE = 3;
    private static final int PROP = 4;

    // A cell is bit 8 * row + column in every hill, however wide: rising bits are rising numbers.
    private static final int STRIDE = 8;
    private static final int PLACES = 48;
    private static final long LEFTMOST = 0x010101010101L;
    private static final long RIGHTMOST = 0x808080808080L;
    private static final long WIDEST = 0xFFFFFFFFFFFFL;

    private static final int FIRST_WIDE = 6;
    private static final int FIRST_HIGH = 4;
    private static final int MOST_WIDE = 8;
    private static final int MOST_HIGH = 6;
    private static final int MOST_KNOCKED = 20;
    private static final int LOUDEST = 9;
    private static final int KINDS_FROM = 100;
    private static final int FITS_FROM = 10;
    private static final int FARTHEST = 12;
    private static final int MOST_CUTS = 3;
    private static final int MOST_RACED = 40;
    private static final int MOST_DRAWN = 60;

    private final Book book = new Book();
    private final Book[] images = new Book[IMAGES];
    private final boolean[] taken = new boolean[IMAGES];
    private final Reader reader = new Reader();
    private final Site site = new Site();
    private final Plan plan = new Plan();
    private final Props props = new Props();
    private final Ear ear = new Ear();
    private final Coder coder = new Coder();
    private final long[] ways = new long[PLACES + 1];

    public TwoQuarries() {
        for (int k = 0; k < images.length; k++) {
            images[k] = new Book();
        }
    }

    public int feed(int a, int b, int c, int d, int e) {
        if (book.length > TAPE - FED) {
            return NONE;
        }
        book.append(a);
        book.append(b);
        book.append(c);
        book.append(d);
        book.append(e);
        return book.length;
    }

    public int end(int n) {
        if (n < 0 || n > book.length) {
            return NONE;
        }
        book.length = n;
        return n;
    }

    public int text(int sort, int at) {
        // The tape is taken even where no text is read: it is empty behind every call.
        int length = book.length;
        book.length = 0;
        book.fault = 0;
        book.place = NONE;
        int many = book.countOf(sort);
        if (sort < 0 || sort >= SORTS || at < NONE || at >= many || (at == NONE && many >= OF_A_SORT)) {
            return UNKNOWN;
        }
        reader.read(book.tape, length, sort);
        book.fault = reader.fault;
        book.place = reader.place;
        if (reader.fault != 0) {
            return NONE;
        }
        return keep(sort, at == NONE ? many : at);
    }

    public int fault(int what) {
        if (what == 0) {
            return book.fault;
        }
        return what == 1 ? book.place : NONE;
    }

    public int hill(int hill, int what) {
        Hill told = book.hillAt(hill);
        if (told == null) {
            return NONE;
        }
        switch (what) {
            case 0:
                return told.wide;
            case 1:
                return told.high;
            case 2:
                return Long.bitCount(told.stones());
            case 3:
                return told.worthOf(told.stones());
            default:
                return what < KINDS_FROM ? NONE : told.kindOf(what - KINDS_FROM);
        }
    }

    public int deed(int year, int k, int what) {
        Year told = book.yearAt(year);
        if (told == null) {
            return UNKNOWN;
        }
        if (k == NONE) {
            return what == 0 ? told.many : UNKNOWN;
        }
        if (k < 0 || k >= told.many || what < 0 || what > 2) {
            return UNKNOWN;
        }
        if (what == 0) {
            return told.kindAt(k);
        }
        return what == 1 ? told.firstAt(k) : told.secondAt(k);
    }

    public int stop(int hill, int year) {
        Hill told = book.hillAt(hill);
        Year deeds = book.yearAt(year);
        if (told == null || deeds == null) {
            return NONE;
        }
        return site.replay(told, deeds, deeds.many);
    }

    public int state(int hill, int year, int n, int what) {
        Hill told = book.hillAt(hill);
        Year deeds = book.yearAt(year);
        if (told == null || deeds == null || n < 0 || n > deeds.many) {
            return UNKNOWN;
        }
        if (site.replay(told, deeds, n) < n) {
            return UNKNOWN;
        }
        return site.answer(what);
    }

    public int thick(int hill) {
        Hill told = book.hillAt(hill);
        return told == null ? NONE : told.thickness(told.solid());
    }

    public int cuts(int hill, int side, boolean safe, int k) {
        Hill told = book.hillAt(hill);
        if (told == null || !isSide(side)) {
            return NONE;
        }
        long cells = safe ? told.safeFor(side, told.solid()) : told.cuttable(side, told.solid());
        return k == NONE ? Long.bitCount(cells) : told.pick(cells, k);
    }

    public int fell(int hill, int cell) {
        Hill told = book.hillAt(hill);
        if (told == null) {
            return NONE;
        }
        if (cell == NONE || cell == -2) {
            long weak = told.weakest();
            if (weak == 0L) {
                return NONE;
            }
            return cell == NONE ? told.lostWithout(weak) : told.pick(weak, 0);
        }
        long bit = told.stones() & told.bitOf(cell);
        return bit == 0L ? NONE : told.lostWithout(bit);
    }

    public int rich(int hill, int side, int n, int k) {
        Hill told = book.hillAt(hill);
        if (told == null || !isSide(side) || n < 0 || n > MOST_CUTS) {
            return NONE;
        }
        plan.richest(told, side, n);
        if (k == NONE) {
            return plan.worth;
        }
        return k == -2 ? plan.many : plan.cellAt(k);
    }

    public int duel(int hill, int n, boolean first) {
        Hill told = book.hillAt(hill);
        if (told == null || n < 0 || n > MOST_CUTS || (first && n == 0)) {
            return NO_DUEL;
        }
        plan.fight(told, n);
        return first ? plan.firstCell : plan.lead;
    }

    public int border(int hill, boolean apart) {
        Hill told = book.hillAt(hill);
        if (told == null) {
            return NONE;
        }
        int column = told.fairColumn();
        return apart ? told.unfairness(column) : column;
    }

    public int propped(int hill, int cell, int k) {
        Hill told = book.hillAt(hill);
        if (told == null) {
            return NONE;
        }
        long bit = told.stones() & told.bitOf(cell);
        if (bit == 0L || !props.hold(told, bit)) {
            return NONE;
        }
        return k == NONE ? Long.bitCount(props.cells) : told.pick(props.cells, k);
    }

    public long quake(int hill, int p, boolean under) {
        Hill told = book.hillAt(hill);
        if (told == null || p < 0 || p > 10) {
            return NONE;
        }
        long above = told.quakeLosses(p);
        long below = power(10, Long.bitCount(told.stones() & told.bottom));
        long common = commonDivisor(above, below);
        if (common < 1L) {
            return NONE;
        }
        return under ? below / common : above / common;
    }

    public int fact(int log, int k, int what) {
        Log told = book.logAt(log);
        if (told == null) {
            return UNKNOWN;
        }
        if (k == NONE) {
            return what == 0 ? told.many : UNKNOWN;
        }
        if (k < 0 || k >= told.many || what < 0 || what > 1) {
            return UNKNOWN;
        }
        return what == 0 ? told.cellAt(k) : told.heardAt(k);
    }

    public int fits(int log, int what) {
        Log told = book.logAt(log);
        if (told == null) {
            return UNKNOWN;
        }
        ear.gather(told);
        switch (what) {
            case 0:
                return ear.fitCount();
            case 1:
                return ear.sureCell();
            case 2:
                return ear.sureStrength();
            case 3:
                return ear.bestAsked();
            default:
                return what < FITS_FROM ? UNKNOWN : ear.fitAt(what - FITS_FROM);
        }
    }

    public int talk(int talk, int k) {
        Talk told = book.talkAt(talk);
        if (told == null) {
            return NONE;
        }
        if (k == NONE) {
            return told.many;
        }
        return k == -2 ? coder.cheapest(told) : told.oftenAt(k);
    }

    public int drawn(int hill, int seed, int n, int what) {
        Hill told = book.hillAt(hill);
        if (told == null || n < 0 || n > MOST_DRAWN) {
            return UNKNOWN;
        }
        site.draw(told, seed, n);
        return site.answer(what);
    }

    public int path(int hill) {
        Hill told = book.hillAt(hill);
        if (told == null) {
            return NONE;
        }
        int thickness = told.thickness(told.solid());
        return thickness == NONE ? NONE : told.shortestWay(thickness, ways);
    }

    public int caves(int hill, int what) {
        Hill told = book.hillAt(hill);
        if (told == null) {
            return NONE;
        }
        switch (what) {
            case 0:
                return told.caveCount();
            case 1:
                return told.largestCave();
            case 2:
                return longestRun(told.air());
            case 3:
                return told.isMirrored() ? 1 : 0;
            default:
                return NONE;
        }
    }

    public int pillars(int hill, int n) {
        Hill told = book.hillAt(hill);
        if (told == null || n < 0 || n > PLACES) {
            return NONE;
        }
        return told.bearing(n);
    }

    public int nearer(int hill, int side) {
        Hill told = book.hillAt(hill);
        if (told == null || !isSide(side)) {
            return NONE;
        }
        return told.worthOf(told.sooner(side));
    }

    public int steady(int hill, int side, boolean worth) {
        Hill told = book.hillAt(hill);
        if (told == null || !isSide(side)) {
            return NONE;
        }
        long cut = told.steadyCuts(side);
        return worth ? told.worthOf(cut) : Long.bitCount(cut);
    }

    public int race(int hill, int n, int what) {
        Hill told = book.hillAt(hill);
        if (told == null || n < 0 || n > MOST_RACED || what < 0 || what > 2) {
            return UNKNOWN;
        }
        plan.run(told, n);
        if (what == 2) {
            return told.thickness(plan.left);
        }
        return what == 0 ? plan.northWorth : plan.southWorth;
    }

    public int after(int hill, int year, int what) {
        Hill told = book.hillAt(hill);
        Year deeds = book.yearAt(year);
        if (told == null || deeds == null || what < 0 || what > 2) {
            return UNKNOWN;
        }
        site.review(told, deeds);
        if (what == 0) {
            return site.eye;
        }
        return what == 1 ? site.worst : site.worstLost;
    }

    public int range(int log, int cell, boolean most) {
        Log told = book.logAt(log);
        if (told == null || cell < 0 || cell >= PLACES) {
            return NONE;
        }
        ear.gather(told);
        return most ? ear.loudestAt(cell) : ear.faintestAt(cell);
    }

    public int plain(int talk, int k) {
        Talk told = book.talkAt(talk);
        if (told == null) {
            return NONE;
        }
        return k == NONE ? told.plainBlows() : told.rankOf(k);
    }

    public int comes(int hill, int side, int cell) {
        Hill told = book.hillAt(hill);
        if (told == null || !isSide(side)) {
            return NONE;
        }
        return told.fewestStones(side, told.bitOf(cell), told.solid());
    }

    public int crest(int hill, boolean worth) {
        Hill told = book.hillAt(hill);
        if (told == null) {
            return NONE;
        }
        int row = told.richestRow();
        return worth ? told.worthOf(told.rowMask(row)) : row;
    }

    public int shored(int hill, int n, int k) {
        Hill told = book.hillAt(hill);
        if (told == null || n < 0 || n > 2) {
            return NONE;
        }
        props.shore(told, n);
        if (k == NONE) {
            return props.safest;
        }
        return props.safest == NONE ? NONE : told.pick(props.cells, k);
    }

    public int streak(int hill, int side) {
        Hill told = book.hillAt(hill);
        if (told == null || !isSide(side)) {
            return NONE;
        }
        return longestRun(told.safeFor(side, told.solid()));
    }

    public int within(int log, int cell, int n) {
        Log told = book.logAt(log);
        if (told == null || cell < 0 || cell >= PLACES || n < 0 || n > FARTHEST) {
            return NONE;
        }
        ear.gather(told);
        return ear.countNear(cell, n);
    }

    public int deepest(int talk) {
        Talk told = book.talkAt(talk);
        return told == null ? NONE : shallowestDepth(told.many);
    }

    public int count(int sort) {
        return sort < 0 || sort >= SORTS ? UNKNOWN : book.countOf(sort);
    }

    public boolean image(int k) {
        if (k < 0 || k >= images.length || k >= taken.length) {
            return false;
        }
        images[k].take(book);
        taken[k] = true;
        return true;
    }

    public boolean again(int k) {
        if (k < 0 || k >= images.length || k >= taken.length || !taken[k]) {
            return false;
        }
        book.take(images[k]);
        return true;
    }

    private int keep(int sort, int at) {
        switch (sort) {
            case HILLS:
                book.keepHill(at, reader.hill);
                break;
            case YEARS:
                book.keepYear(at, reader.year);
                break;
            case LOGS:
                book.keepLog(at, reader.log);
                break;
            default:
                book.keepTalk(at, reader.talk);
                break;
        }
        return at;
    }

    private static boolean isSide(int side) {
        return side == NORTH || side == SOUTH;
    }

    private static long lowest(long cells) {
        return cells & -cells;
    }

    private static long leftOf(long cells) {
        return (cells >>> 1) & ~RIGHTMOST;
    }

    private static long rightOf(long cells) {
        return (cells << 1) & ~LEFTMOST;
    }

    private static long nextTo(long cells) {
        return leftOf(cells) | rightOf(cells) | (cells << STRIDE) | (cells >>> STRIDE);
    }

    private static long flood(long from, long open) {
        long wet = from;
        for (int round = 0; round < PLACES; round++) {
            // The cells next to these, spelled out: every search ends here, and calls stay shallow.
            long aside = ((wet >>> 1) & ~RIGHTMOST) | ((wet << 1) & ~LEFTMOST);
            long more = wet | ((aside | (wet << STRIDE) | (wet >>> STRIDE)) & open);
            if (more == wet) {
                break;
            }
            wet = more;
        }
        return wet;
    }

    private static int longestRun(long cells) {
        long ends = cells;
        int run = 0;
        for (int round = 0; round < MOST_WIDE && ends != 0L; round++) {
            run++;
            ends &= rightOf(ends);
        }
        return run;
    }

    private static long power(long base, int exponent) {
        long product = 1L;
        for (int i = 0; i < exponent && i < MOST_WIDE; i++) {
            product *= base;
        }
        return product;
    }

    private static long commonDivisor(long a, long b) {
        long big = a;
        long small = b;
        // Euclid halves the numbers every second round: 128 rounds are more than 63 bits can need.
        for (int round = 0; round < 128 && small != 0L; round++) {
            long rest = big % small;
            big = small;
            small = rest;
        }
        return big;
    }

    /** How deep the deepest word must be: depths up to d hold as many words as d - 1 and d - 2 together. */
    private static int shallowestDepth(int words) {
        if (words < 1) {
            return 0;
        }
        int before = 1;
        int holds = 1;
        int depth = 1;
        for (int round = 0; round < WORDS && holds < words; round++) {
            int more = before + holds;
            before = holds;
            holds = more;
            depth++;
        }
        return depth;
    }

    /** All that is told: what an image has. */
    private static final class Book {
        private final byte[] tape = new byte[TAPE];
        private int length = 0;
        private int fault = 0;
        private int place = NONE;
        private final int[] many = new int[SORTS];
        private final Hill[] hills = new Hill[OF_A_SORT];
        private final Year[] years = new Year[OF_A_SORT];
        private final Log[] logs = new Log[OF_A_SORT];
        private final Talk[] talks = new Talk[OF_A_SORT];

        Book() {
            for (int i = 0; i < OF_A_SORT; i++) {
                hills[i] = new Hill();
                years[i] = new Year();
                logs[i] = new Log();
                talks[i] = new Talk();
            }
        }

        void take(Book other) {
            System.arraycopy(other.tape, 0, tape, 0, TAPE);
            length = other.length;
            fault = other.fault;
            place = other.place;
            System.arraycopy(other.many, 0, many, 0, SORTS);
            for (int i = 0; i < OF_A_SORT; i++) {
                hills[i].take(other.hills[i]);
                years[i].take(other.years[i]);
                logs[i].take(other.logs[i]);
                talks[i].take(other.talks[i]);
            }
        }

        void append(int four) {
            for (int shift = 24; shift >= 0; shift -= 8) {
                if (length >= 0 && length < tape.length) {
                    tape[length] = (byte) (four >>> shift);
                    length++;
                }
            }
        }

        int countOf(int sort) {
            return sort < 0 || sort >= many.length ? 0 : many[sort];
        }

        Hill hillAt(int i) {
            return i < 0 || i >= countOf(HILLS) || i >= hills.length ? null : hills[i];
        }

        Year yearAt(int i) {
            return i < 0 || i >= countOf(YEARS) || i >= years.length ? null : years[i];
        }

        Log logAt(int i) {
            return i < 0 || i >= countOf(LOGS) || i >= logs.length ? null : logs[i];
        }

        Talk talkAt(int i) {
            return i < 0 || i >= countOf(TALKS) || i >= talks.length ? null : talks[i];
        }

        void keepHill(int at, Hill draft) {
            if (at >= 0 && at < hills.length) {
                hills[at].take(draft);
                noteKept(HILLS, at);
            }
        }

        void keepYear(int at, Year draft) {
            if (at >= 0 && at < years.length) {
                years[at].take(draft);
                noteKept(YEARS, at);
            }
        }

        void keepLog(int at, Log draft) {
            if (at >= 0 && at < logs.length) {
                logs[at].take(draft);
                noteKept(LOGS, at);
            }
        }

        void keepTalk(int at, Talk draft) {
            if (at >= 0 && at < talks.length) {
                talks[at].take(draft);
                noteKept(TALKS, at);
            }
        }

        private void noteKept(int sort, int at) {
            if (sort >= 0 && sort < many.length) {
                many[sort] = Math.max(many[sort], at + 1);
            }
        }
    }

    /** A hill: each kind of cell is a set of bits. What is asked of a hill later on is asked of its solid cells. */
    private static final class Hill {
        private int wide = 0;
        private int high = 0;
        private long area = 0L;
        private long west = 0L;
        private long east = 0L;
        private long bottom = 0L;
        private long chalk = 0L;
        private long marble = 0L;
        private long granite = 0L;
        private long prop = 0L;

        void take(Hill other) {
            wide = other.wide;
            high = other.high;
            area = other.area;
            west = other.west;
            east = other.east;
            bottom = other.bottom;
            chalk = other.chalk;
            marble = other.marble;
            granite = other.granite;
            prop = other.prop;
        }

        void size(int newWide, int newHigh) {
            wide = newWide;
            high = newHigh;
            area = 0L;
            for (int row = 0; row < high && row < MOST_HIGH; row++) {
                area |= rowMask(row);
            }
            west = LEFTMOST & area;
            east = (LEFTMOST << (wide - 1)) & area;
            bottom = rowMask(high - 1);
        }

        void clear() {
            chalk = 0L;
            marble = 0L;
            granite = 0L;
            prop = 0L;
        }

        void put(int kind, long cells) {
            keepOnly(~cells);
            switch (kind) {
                case CHALK:
                    chalk |= cells;
                    break;
                case MARBLE:
                    marble |= cells;
                    break;
                case GRANITE:
                    granite |= cells;
                    break;
                case PROP:
                    prop |= cells;
                    break;
                default:
                    break;
            }
        }

        void keepOnly(long cells) {
            chalk &= cells;
            marble &= cells;
            granite &= cells;
            prop &= cells;
        }

        long stones() {
            return chalk | marble | granite;
        }

        long solid() {
            return stones() | prop;
        }

        long air() {
            return area & ~solid();
        }

        long rowMask(int row) {
            return row < 0 || row >= MOST_HIGH ? 0L : ((1L << wide) - 1L) << (STRIDE * row);
        }

        long bitAt(int column, int row) {
            if (column < 0 || column >= wide || row < 0 || row >= high) {
                return 0L;
            }
            return 1L << (STRIDE * row + column);
        }

        int cellCount() {
            return wide * high;
        }

        long bitOf(int cell) {
            if (wide < 1 || cell < 0 || cell >= cellCount()) {
                return 0L;
            }
            return bitAt(cell % wide, cell / wide);
        }

        int numberOf(long bit) {
            int place = Long.bitCount(bit - 1L);
            return wide * (place / STRIDE) + place % STRIDE;
        }

        /** The number of the k-th of some cells. */
        int pick(long cells, int k) {
            if (k < 0 || k >= Long.bitCount(cells)) {
                return NONE;
            }
            long rest = cells;
            for (int i = 0; i < k; i++) {
                rest &= rest - 1L;
            }
            return numberOf(lowest(rest));
        }

        int kindOf(int cell) {
            long bit = bitOf(cell);
            return bit == 0L ? NONE : kindOfBit(bit);
        }

        private int kindOfBit(long bit) {
            if ((chalk & bit) != 0L) {
                return CHALK;
            }
            if ((marble & bit) != 0L) {
                return MARBLE;
            }
            if ((granite & bit) != 0L) {
                return GRANITE;
            }
            return (prop & bit) != 0L ? PROP : AIR;
        }

        int worthOf(long cells) {
            return Long.bitCount(chalk & cells) + 4 * Long.bitCount(marble & cells) + 2 * Long.bitCount(granite & cells);
        }

        int blowsOf(long cells) {
            return Long.bitCount(chalk & cells) + 2 * Long.bitCount(marble & cells) + 3 * Long.bitCount(granite & cells);
        }

        /** Of some stones the one of most worth, of several the first. */
        long dearest(long cells) {
            if ((cells & marble) != 0L) {
                return lowest(cells & marble);
            }
            return lowest((cells & granite) != 0L ? cells & granite : cells & chalk);
        }

        private long carried(long solid) {
            return solid & (bottom | (solid >>> STRIDE));
        }

        private long bridged(long solid) {
            return solid & (solid >>> 1) & ~RIGHTMOST & (solid << 1) & ~LEFTMOST;
        }

        long standing(long solid) {
            return carried(solid) | bridged(solid);
        }

        /** What is left when all that does not stand has fallen: what falls first changes nothing in that. */
        long settled(long solid) {
            long left = solid;
            for (int round = 0; round < PLACES; round++) {
                long still = standing(left);
                if (still == left) {
                    break;
                }
                left = still;
            }
            return left;
        }

        /** How many fall when a solid cell of the hill as told is taken out. */
        int lostWithout(long bit) {
            long rest = solid() & ~bit;
            return Long.bitCount(rest & ~settled(rest));
        }

        long weakest() {
            long weak = 0L;
            int most = NONE;
            for (int place = 0; place < PLACES; place++) {
                long bit = stones() & (1L << place);
                if (bit != 0L && lostWithout(bit) > most) {
                    most = lostWithout(bit);
                    weak = bit;
                }
            }
            return weak;
        }

        int bearing(int n) {
            int found = 0;
            for (int place = 0; place < PLACES; place++) {
                long bit = stones() & (1L << place);
                if (bit != 0L && lostWithout(bit) >= n) {
                    found++;
                }
            }
            return found;
        }

        long edge(int side) {
            return side == NORTH ? west : east;
        }

        /** The cells of air to which a side comes without a cut. */
        private long reached(int side, long solid) {
            long open = area & ~solid;
            return flood(edge(side) & open, open);
        }

        long cuttable(int side, long solid) {
            return stones() & solid & (edge(side) | nextTo(reached(side, solid)));
        }

        /** Only where all that is solid stands: then a cut is safe if the cells above, left and right stand without it. */
        long safeFor(int side, long solid) {
            long hangs = solid & ~carried(solid);
            long rests = solid & ~bridged(solid);
            long needed = leftOf(hangs) | rightOf(hangs) | (rests << STRIDE);
            return cuttable(side, solid) & ~needed;
        }

        /** The cells to which a side comes by one stone more, at most, than to those of the layer before. */
        private long nextLayer(int side, long layer, long solid) {
            long stones = stones() & solid;
            return flood(layer | (stones & (edge(side) | nextTo(layer))), area & ~solid);
        }

        int fewestStones(int side, long goal, long solid) {
            long layer = reached(side, solid);
            for (int stones = 0; stones <= PLACES; stones++) {
                if ((layer & goal) != 0L) {
                    return stones;
                }
                long further = nextLayer(side, layer, solid);
                if (further == layer) {
                    return NONE;
                }
                layer = further;
            }
            return NONE;
        }

        int thickness(long solid) {
            return fewestStones(NORTH, east, solid);
        }

        boolean isHeardThrough(int number) {
            int stones = fewestStones(NORTH, east, solid());
            return stones != NONE && stones <= number;
        }

        boolean isThrough() {
            return (reached(NORTH, solid()) & east) != 0L;
        }

        /** The fewest cells of a way with so many stones; row s of ways has the ends of all ways with s stones. */
        int shortestWay(int stones, long[] ways) {
            if (stones < 0 || stones >= ways.length) {
                return NONE;
            }
            for (int s = 0; s <= stones; s++) {
                ways[s] = 0L;
            }
            ways[0] = west & air();
            if (stones > 0) {
                ways[1] = west & stones();
            }
            for (int cells = 1; cells <= PLACES; cells++) {
                if ((ways[stones] & east) != 0L) {
                    return cells;
                }
                for (int s = stones; s >= 0; s--) {
                    long less = s > 0 ? ways[s - 1] : 0L;
                    ways[s] = (nextTo(ways[s]) & air()) | (nextTo(less) & stones());
                }
            }
            return NONE;
        }

        /** The stones to which a side comes by fewer stones than the other side. */
        long sooner(int side) {
            int other = side == NORTH ? SOUTH : NORTH;
            long mine = reached(side, solid());
            long theirs = reached(other, solid());
            long found = 0L;
            for (int stones = 0; stones <= PLACES; stones++) {
                found |= mine & ~theirs & stones();
                long mineNext = nextLayer(side, mine, solid());
                long theirsNext = nextLayer(other, theirs, solid());
                if (mineNext == mine && theirsNext == theirs) {
                    break;
                }
                mine = mineNext;
                theirs = theirsNext;
            }
            return found;
        }

        long steadyCuts(int side) {
            long left = solid();
            for (int cut = 0; cut < PLACES; cut++) {
                long bit = lowest(safeFor(side, left));
                if (bit == 0L) {
                    break;
                }
                left &= ~bit;
            }
            return solid() & ~left;
        }

        private int worthAhead(int column) {
            int worth = 0;
            for (int row = 0; row < high; row++) {
                worth += worthOf(((1L << column) - 1L) << (STRIDE * row));
            }
            return worth;
        }

        int unfairness(int column) {
            return Math.abs(2 * worthAhead(column) - worthOf(area));
        }

        int fairColumn() {
            int best = 0;
            for (int column = 1; column <= wide; column++) {
                if (unfairness(column) < unfairness(best)) {
                    best = column;
                }
            }
            return best;
        }

        int richestRow() {
            int best = 0;
            for (int row = 1; row < high; row++) {
                if (worthOf(rowMask(row)) > worthOf(rowMask(best))) {
                    best = row;
                }
            }
            return best;
        }

        /** What falls in all quakes together, each as often as it comes in ten to the power of the lowest stones. */
        long quakeLosses(int p) {
            long shaken = stones() & bottom;
            int many = Long.bitCount(shaken);
            long sum = 0L;
            long gone = shaken;
            for (int round = 0; round < 1 << MOST_WIDE; round++) {
                int taken = Long.bitCount(gone);
                long rest = solid() & ~gone;
                sum += power(p, taken) * power(10 - p, many - taken) * Long.bitCount(rest & ~settled(rest));
                if (gone == 0L) {
                    break;
                }
                gone = (gone - 1L) & shaken;
            }
            return sum;
        }

        int caveCount() {
            long rest = air();
            int caves = 0;
            for (int round = 0; round < PLACES && rest != 0L; round++) {
                rest &= ~flood(lowest(rest), rest);
                caves++;
            }
            return caves;
        }

        int largestCave() {
            long rest = air();
            int largest = 0;
            for (int round = 0; round < PLACES && rest != 0L; round++) {
                long cave = flood(lowest(rest), rest);
                largest = Math.max(largest, Long.bitCount(cave));
                rest &= ~cave;
            }
            return largest;
        }

        boolean isMirrored() {
            for (int row = 0; row < high; row++) {
                for (int column = 0; column < wide; column++) {
                    if (kindOfBit(bitAt(column, row)) != kindOfBit(bitAt(wide - 1 - column, row))) {
                        return false;
                    }
                }
            }
            return true;
        }
    }

    /** A year: its deeds in their order. */
    private static final class Year {
        private int many = 0;
        private final int[] kinds = new int[DEEDS];
        private final int[] firsts = new int[DEEDS];
        private final int[] seconds = new int[DEEDS];

        void take(Year other) {
            many = other.many;
            System.arraycopy(other.kinds, 0, kinds, 0, DEEDS);
            System.arraycopy(other.firsts, 0, firsts, 0, DEEDS);
            System.arraycopy(other.seconds, 0, seconds, 0, DEEDS);
        }

        void add(int kind, int first, int second) {
            if (many >= 0 && many < DEEDS) {
                kinds[many] = kind;
                firsts[many] = first;
                seconds[many] = second;
                many++;
            }
        }

        int kindAt(int k) {
            return k < 0 || k >= kinds.length ? NONE : kinds[k];
        }

        int firstAt(int k) {
            return k < 0 || k >= firsts.length ? NONE : firsts[k];
        }

        int secondAt(int k) {
            return k < 0 || k >= seconds.length ? NONE : seconds[k];
        }
    }

    /** A log: its facts in their order. */
    private static final class Log {
        private int many = 0;
        private final int[] cells = new int[FACTS];
        private final int[] heard = new int[FACTS];

        void take(Log other) {
            many = other.many;
            System.arraycopy(other.cells, 0, cells, 0, FACTS);
            System.arraycopy(other.heard, 0, heard, 0, FACTS);
        }

        void add(int cell, int loud) {
            if (many >= 0 && many < FACTS) {
                cells[many] = cell;
                heard[many] = loud;
                many++;
            }
        }

        int cellAt(int k) {
            return k < 0 || k >= cells.length ? NONE : cells[k];
        }

        int heardAt(int k) {
            return k < 0 || k >= heard.length ? NONE : heard[k];
        }
    }

    /** A talk: its words in their order. */
    private static final class Talk {
        private int many = 0;
        private final int[] often = new int[WORDS];

        void take(Talk other) {
            many = other.many;
            System.arraycopy(other.often, 0, often, 0, WORDS);
        }

        void add(int times) {
            if (many >= 0 && many < WORDS) {
                often[many] = times;
                many++;
            }
        }

        int oftenAt(int k) {
            return k < 0 || k >= many || k >= often.length ? NONE : often[k];
        }

        /** A word's rank by how often it is told, from 1 on: its blows in plain talk. */
        int rankOf(int k) {
            if (k < 0 || k >= many) {
                return NONE;
            }
            int rank = 1;
            for (int other = 0; other < many; other++) {
                if (oftenAt(other) > oftenAt(k) || (oftenAt(other) == oftenAt(k) && other < k)) {
                    rank++;
                }
            }
            return rank;
        }

        int plainBlows() {
            int blows = 0;
            for (int k = 0; k < many; k++) {
                blows += rankOf(k) * oftenAt(k);
            }
            return blows;
        }
    }

    /** Reads the tape into drafts, so that a text with a fault leaves all that is told as it was. */
    private static final class Reader {
        private static final int END = 0;
        private static final int WORD = 1;
        private static final int NUMBER = 2;
        private static final int SEMICOLON = 3;
        private static final int NO_TOKEN = 4;
        private static final int SIZE = 5;

        private final byte[] tape = new byte[TAPE];
        private final Hill hill = new Hill();
        private final Year year = new Year();
        private final Log log = new Log();
        private final Talk talk = new Talk();
        private final int[] numbers = new int[3];
        private long told = 0L;
        private int length = 0;
        private int at = 0;
        private int start = 0;
        private int value = 0;
        private int fault = 0;
        private int place = NONE;

        void read(byte[] bytes, int many, int sort) {
            length = Math.max(0, Math.min(many, Math.min(bytes.length, tape.length)));
            System.arraycopy(bytes, 0, tape, 0, length);
            begin();
            for (int line = 0; line <= TAPE; line++) {
                int token = next();
                if (token == END) {
                    break;
                }
                int which = token == WORD ? keyword(sort) : NONE;
                if (which == NONE || !readLine(sort, which)) {
                    fault = 1;
                    place = start;
                    return;
                }
            }
            if (sort == HILLS) {
                finishHill();
            }
        }

        private void begin() {
            at = 0;
            fault = 0;
            place = NONE;
            told = 0L;
            hill.clear();
            hill.size(FIRST_WIDE, FIRST_HIGH);
            year.many = 0;
            log.many = 0;
            talk.many = 0;
        }

        private void blame(int number, int where) {
            if (fault == 0) {
                fault = number;
                place = where;
            }
        }

        private void finishHill() {
            if ((told & ~hill.area) != 0L) {
                blame(4, length);
            }
            hill.put(CHALK, hill.area & ~told);
            if (hill.standing(hill.solid()) != hill.solid()) {
                blame(5, length);
            }
        }

        private int next() {
            while (at < length && isBlank(byteAt(at))) {
                at++;
            }
            start = at;
            if (at >= length) {
                return END;
            }
            int sign = byteAt(at);
            if (isLetter(sign)) {
                while (at < length && isLetter(byteAt(at))) {
                    at++;
                }
                return WORD;
            }
            if (isDigit(sign)) {
                return nextNumber();
            }
            at++;
            return sign == ';' ? SEMICOLON : NO_TOKEN;
        }

        private int nextNumber() {
            value = 0;
            while (at < length && isDigit(byteAt(at))) {
                // A row of more than two digits is no token: what it tells does not matter.
                value = at - start < 2 ? 10 * value + byteAt(at) - '0' : 0;
                at++;
            }
            return at - start > 2 ? NO_TOKEN : NUMBER;
        }

        private int byteAt(int i) {
            return i < 0 || i >= length || i >= tape.length ? NONE : tape[i] & 255;
        }

        private boolean readLine(int sort, int which) {
            if (isFull(sort)) {
                blame(3, start);
            }
            int many = numbersOf(sort, which);
            for (int i = 0; i < many && i < numbers.length; i++) {
                if (next() != NUMBER) {
                    return false;
                }
                numbers[i] = value;
                if (!mayBe(sort, which, i)) {
                    blame(2, start);
                }
            }
            if (next() != SEMICOLON) {
                return false;
            }
            tell(sort, which);
            return true;
        }

        private boolean isFull(int sort) {
            switch (sort) {
                case YEARS:
                    return year.many >= DEEDS;
                case LOGS:
                    return log.many >= FACTS;
                case TALKS:
                    return talk.many >= WORDS;
                default:
                    return false;
            }
        }

        private int keyword(int sort) {
            switch (sort) {
                case HILLS:
                    return hillWord();
                case YEARS:
                    return yearWord();
                case LOGS:
                    return isWord("heard") ? 0 : NONE;
                default:
                    return isWord("word") ? 0 : NONE;
            }
        }

        private int hillWord() {
            if (isWord("size")) {
                return SIZE;
            }
            if (isWord("air")) {
                return AIR;
            }
            if (isWord("chalk")) {
                return CHALK;
            }
            if (isWord("marble")) {
                return MARBLE;
            }
            if (isWord("granite")) {
                return GRANITE;
            }
            return isWord("prop") ? PROP : NONE;
        }

        private int yearWord() {
            if (isWord("north")) {
                return NORTH;
            }
            if (isWord("south")) {
                return SOUTH;
            }
            if (isWord("prop")) {
                return SHORE;
            }
            return isWord("knock") ? KNOCK : NONE;
        }

        private boolean isWord(String word) {
            if (at - start != word.length()) {
                return false;
            }
            for (int i = 0; i < word.length(); i++) {
                if (byteAt(start + i) != word.charAt(i)) {
                    return false;
                }
            }
            return true;
        }

        private static int numbersOf(int sort, int which) {
            if (sort == LOGS) {
                return 3;
            }
            return sort == TALKS || (sort == YEARS && which == KNOCK) ? 1 : 2;
        }

        private boolean mayBe(int sort, int which, int i) {
            if (sort == TALKS) {
                return true;
            }
            if (sort == HILLS && which == SIZE) {
                return value >= 2 && value <= (i == 0 ? MOST_WIDE : MOST_HIGH);
            }
            if (sort == YEARS && which == KNOCK) {
                return value <= MOST_KNOCKED;
            }
            if (i == 2) {
                return value <= LOUDEST;
            }
            return value < (i == 0 ? MOST_WIDE : MOST_HIGH);
        }

        private void tell(int sort, int which) {
            switch (sort) {
                case HILLS:
                    tellOfHill(which);
                    break;
                case YEARS:
                    year.add(which, numbers[0], which == KNOCK ? NONE : numbers[1]);
                    break;
                case LOGS:
                    log.add(STRIDE * numbers[1] + numbers[0], numbers[2]);
                    break;
                default:
                    talk.add(numbers[0]);
                    break;
            }
        }

        private void tellOfHill(int which) {
            if (fault != 0) {
                return;
            }
            if (which == SIZE) {
                hill.size(numbers[0], numbers[1]);
                return;
            }
            long bit = 1L << (STRIDE * numbers[1] + numbers[0]);
            told |= bit;
            hill.put(which, bit);
        }

        private static boolean isBlank(int sign) {
            return sign == 10 || sign == 32;
        }

        private static boolean isLetter(int sign) {
            return sign >= 'a' && sign <= 'z';
        }

        private static boolean isDigit(int sign) {
            return sign >= '0' && sign <= '9';
        }
    }

    /** A hill at work: what deeds have made of it, and what came of them. */
    private static final class Site {
        private final Hill ground = new Hill();
        private int northWorth = 0;
        private int southWorth = 0;
        private int northBlows = 0;
        private int southBlows = 0;
        private int lost = 0;
        private int heard = 0;
        private int eye = NONE;
        private int worst = NONE;
        private int worstLost = 0;
        private int seed = 0;

        private void open(Hill hill) {
            ground.take(hill);
            northWorth = 0;
            southWorth = 0;
            northBlows = 0;
            southBlows = 0;
            lost = 0;
            heard = 0;
        }

        /** Does the first n deeds, or those up to the first that can't be: how many were done. */
        int replay(Hill hill, Year year, int n) {
            open(hill);
            for (int k = 0; k < n; k++) {
                if (!act(year, k)) {
                    return k;
                }
            }
            return n;
        }

        void review(Hill hill, Year year) {
            open(hill);
            eye = ground.isThrough() ? 0 : NONE;
            worst = NONE;
            worstLost = 0;
            for (int k = 0; k < year.many; k++) {
                int before = lost;
                if (!act(year, k)) {
                    return;
                }
                if (eye == NONE && ground.isThrough()) {
                    eye = k + 1;
                }
                if (lost - before > worstLost) {
                    worstLost = lost - before;
                    worst = k;
                }
            }
        }

        void draw(Hill hill, int x, int n) {
            open(hill);
            seed = x;
            for (int i = 0; i < n; i++) {
                actByLot(below(8));
            }
        }

        private void actByLot(int lot) {
            if (lot == 7) {
                heard += ground.isHeardThrough(below(10)) ? 1 : 0;
                return;
            }
            long bit = ground.bitOf(below(ground.cellCount()));
            if (lot == 6) {
                shoreUp(bit);
            } else {
                strike(lot < 3 ? NORTH : SOUTH, bit);
            }
        }

        private int below(int n) {
            seed = seed * 1103515245 + 12345;
            return n < 1 ? 0 : (seed >>> 16) % n;
        }

        private boolean act(Year year, int k) {
            int kind = year.kindAt(k);
            if (kind == KNOCK) {
                heard += ground.isHeardThrough(year.firstAt(k)) ? 1 : 0;
                return true;
            }
            long bit = ground.bitAt(year.firstAt(k), year.secondAt(k));
            return kind == SHORE ? shoreUp(bit) : strike(kind, bit);
        }

        private boolean shoreUp(long bit) {
            if ((ground.air() & bit) == 0L) {
                return false;
            }
            ground.put(PROP, bit);
            return true;
        }

        private boolean strike(int side, long bit) {
            if ((ground.cuttable(side, ground.solid()) & bit) == 0L) {
                return false;
            }
            if (side == NORTH) {
                northWorth += ground.worthOf(bit);
                northBlows += ground.blowsOf(bit);
            } else {
                southWorth += ground.worthOf(bit);
                southBlows += ground.blowsOf(bit);
            }
            long rest = ground.solid() & ~bit;
            long left = ground.settled(rest);
            lost += Long.bitCount(rest & ~left);
            ground.keepOnly(left);
            return true;
        }

        int answer(int what) {
            switch (what) {
                case 0:
                    return northWorth;
                case 1:
                    return southWorth;
                case 2:
                    return northBlows;
                case 3:
                    return southBlows;
                case 4:
                    return lost;
                case 5:
                    return ground.thickness(ground.solid());
                case 6:
                    return heard;
                case 7:
                    return Long.bitCount(ground.stones());
                default:
                    return kindAnswer(what);
            }
        }

        private int kindAnswer(int what) {
            int kind = what < KINDS_FROM ? NONE : ground.kindOf(what - KINDS_FROM);
            return kind == NONE ? UNKNOWN : kind;
        }
    }

    /** Looks ahead over cuts: the richest few, a duel, a race. */
    private static final class Plan {
        private final long[] row = new long[MOST_CUTS];
        private final int[] best = new int[MOST_CUTS];
        private int worth = 0;
        private int many = 0;
        private int lead = 0;
        private int firstCell = 0;
        private int northWorth = 0;
        private int southWorth = 0;
        private long left = 0L;

        int cellAt(int k) {
            return k < 0 || k >= many || k >= best.length ? NONE : best[k];
        }

        void richest(Hill hill, int side, int n) {
            worth = 0;
            many = 0;
            deepen(hill, side, hill.solid(), 0, Math.min(n, MOST_CUTS));
        }

        /** Rows come in rising order, so that the first of several that are worth the same is kept. */
        private void deepen(Hill hill, int side, long solid, int done, int n) {
            compare(hill, hill.solid() & ~solid, done);
            if (done < 0 || done >= n || done >= row.length) {
                return;
            }
            long safe = hill.safeFor(side, solid);
            if (done + 1 == n) {
                // Of the last cuts only the dearest can count.
                safe = hill.dearest(safe);
            }
            for (int place = 0; place < PLACES; place++) {
                long bit = safe & (1L << place);
                if (bit != 0L) {
                    row[done] = bit;
                    deepen(hill, side, solid & ~bit, done + 1, n);
                }
            }
        }

        private void compare(Hill hill, long cut, int done) {
            if (hill.worthOf(cut) <= worth) {
                return;
            }
            worth = hill.worthOf(cut);
            many = done;
            for (int k = 0; k < done && k < best.length; k++) {
                best[k] = hill.numberOf(row[k]);
            }
        }

        void fight(Hill hill, int n) {
            lead = 0;
            firstCell = hill.cellCount();
            if (n < 1) {
                return;
            }
            long solid = hill.solid();
            long open = hill.cuttable(NORTH, solid);
            // Nothing is the last of several, so it counts as a lead only if it beats every cut.
            lead = NO_DUEL;
            for (int place = 0; place < PLACES; place++) {
                long bit = open & (1L << place);
                if (bit != 0L) {
                    int gain = hill.worthOf(bit) - gainOf(hill, SOUTH, hill.settled(solid & ~bit), n - 1);
                    if (gain > lead) {
                        lead = gain;
                        firstCell = hill.numberOf(bit);
                    }
                }
            }
            int idle = -gainOf(hill, SOUTH, solid, n - 1);
            if (idle > lead) {
                lead = idle;
                firstCell = hill.cellCount();
            }
        }

        /** By how much the side whose turn it is can end ahead of the other. */
        private static int gainOf(Hill hill, int side, long solid, int turns) {
            if (turns < 1 || turns > MOST_CUTS) {
                return 0;
            }
            long open = hill.cuttable(side, solid);
            if (turns == 1) {
                return hill.worthOf(hill.dearest(open));
            }
            int other = side == NORTH ? SOUTH : NORTH;
            int most = -gainOf(hill, other, solid, turns - 1);
            for (int place = 0; place < PLACES; place++) {
                long bit = open & (1L << place);
                if (bit != 0L) {
                    int theirs = gainOf(hill, other, hill.settled(solid & ~bit), turns - 1);
                    most = Math.max(most, hill.worthOf(bit) - theirs);
                }
            }
            return most;
        }

        void run(Hill hill, int n) {
            northWorth = 0;
            southWorth = 0;
            left = hill.solid();
            for (int turn = 0; turn < n; turn++) {
                int side = turn % 2;
                long bit = hill.dearest(hill.safeFor(side, left));
                if (side == NORTH) {
                    northWorth += hill.worthOf(bit);
                } else {
                    southWorth += hill.worthOf(bit);
                }
                left &= ~bit;
            }
        }
    }

    /** Tries props on cells of air. */
    private static final class Props {
        private long cells = 0L;
        private int safest = NONE;

        /** Looks for the fewest props by which nothing falls when a stone is taken out. */
        boolean hold(Hill hill, long stone) {
            long rest = hill.solid() & ~stone;
            cells = 0L;
            if (stands(hill, rest)) {
                return true;
            }
            return holdByOne(hill, rest) || holdByTwo(hill, rest);
        }

        private boolean holdByOne(Hill hill, long rest) {
            for (int place = 0; place < PLACES; place++) {
                long one = hill.air() & (1L << place);
                if (one != 0L && stands(hill, rest | one)) {
                    cells = one;
                    return true;
                }
            }
            return false;
        }

        private boolean holdByTwo(Hill hill, long rest) {
            for (int place = 0; place < PLACES; place++) {
                long one = hill.air() & (1L << place);
                for (int further = place + 1; further < PLACES && one != 0L; further++) {
                    long other = hill.air() & (1L << further);
                    if (other != 0L && stands(hill, rest | one | other)) {
                        cells = one | other;
                        return true;
                    }
                }
            }
            return false;
        }

        private static boolean stands(Hill hill, long solid) {
            return hill.standing(solid) == solid;
        }

        /** Looks for the n props by which most cuts of both sides are safe. */
        void shore(Hill hill, int n) {
            cells = 0L;
            safest = NONE;
            if (n == 0) {
                weigh(hill, 0L);
                return;
            }
            for (int place = 0; place < PLACES; place++) {
                long one = hill.air() & (1L << place);
                if (one != 0L && n == 1) {
                    weigh(hill, one);
                }
                for (int further = place + 1; further < PLACES && one != 0L && n == 2; further++) {
                    long other = hill.air() & (1L << further);
                    if (other != 0L) {
                        weigh(hill, one | other);
                    }
                }
            }
        }

        private void weigh(Hill hill, long tried) {
            long solid = hill.solid() | tried;
            if (!stands(hill, solid)) {
                return;
            }
            int safe = Long.bitCount(hill.safeFor(NORTH, solid)) + Long.bitCount(hill.safeFor(SOUTH, solid));
            if (safe > safest) {
                safest = safe;
                cells = tried;
            }
        }
    }

    /** Finds who may be heard by a log: for each strength the set of all cells that fit its facts. */
    private static final class Ear {
        private final long[] fitting = new long[LOUDEST + 1];
        private final int[] times = new int[LOUDEST + 1];

        void gather(Log log) {
            for (int strength = 1; strength < fitting.length; strength++) {
                long cells = WIDEST;
                for (int k = 0; k < log.many; k++) {
                    cells &= heardFrom(log.cellAt(k), log.heardAt(k), strength);
                }
                fitting[strength] = cells;
            }
        }

        /** The cells from which a strength is heard at a cell as told. */
        private static long heardFrom(int cell, int heard, int strength) {
            if (heard == 0) {
                return WIDEST & ~near(cell, strength - 1);
            }
            return near(cell, strength - heard) & ~near(cell, strength - heard - 1);
        }

        private static long near(int cell, int steps) {
            long cells = cell < 0 || cell >= PLACES || steps < 0 ? 0L : 1L << cell;
            for (int i = 0; i < steps && i < FARTHEST; i++) {
                cells |= nextTo(cells) & WIDEST;
            }
            return cells;
        }

        int fitCount() {
            return countIn(WIDEST);
        }

        int countNear(int cell, int steps) {
            return countIn(near(cell, steps));
        }

        private int countIn(long cells) {
            int many = 0;
            for (int strength = 1; strength < fitting.length; strength++) {
                many += Long.bitCount(fitting[strength] & cells);
            }
            return many;
        }

        int fitAt(int k) {
            int before = 0;
            for (int fit = 0; fit < PLACES * LOUDEST && k >= 0; fit++) {
                int strength = fit % LOUDEST + 1;
                if (strength < fitting.length && (fitting[strength] & (1L << (fit / LOUDEST))) != 0L) {
                    if (before == k) {
                        return fit;
                    }
                    before++;
                }
            }
            return UNKNOWN;
        }

        int sureCell() {
            long cells = 0L;
            for (int strength = 1; strength < fitting.length; strength++) {
                cells |= fitting[strength];
            }
            return Long.bitCount(cells) == 1 ? Long.bitCount(cells - 1L) : NONE;
        }

        int sureStrength() {
            int sure = NONE;
            for (int strength = 1; strength < fitting.length; strength++) {
                if (fitting[strength] != 0L) {
                    if (sure != NONE) {
                        return NONE;
                    }
                    sure = strength;
                }
            }
            return sure;
        }

        int bestAsked() {
            int best = NONE;
            int least = fitCount() + 1;
            for (int cell = 0; cell < PLACES && least > 1; cell++) {
                int alike = mostAlike(cell);
                if (alike < least) {
                    least = alike;
                    best = cell;
                }
            }
            return best;
        }

        private int mostAlike(int cell) {
            listenAt(cell);
            int most = 0;
            for (int loud = 0; loud < times.length; loud++) {
                most = Math.max(most, times[loud]);
            }
            return most;
        }

        /** Counts how many of those that fit are heard at a cell how loud. */
        private void listenAt(int cell) {
            for (int loud = 0; loud < times.length; loud++) {
                times[loud] = 0;
            }
            long closer = 0L;
            long cells = near(cell, 0);
            for (int steps = 0; steps <= FARTHEST; steps++) {
                for (int strength = 1; strength < fitting.length; strength++) {
                    int loud = Math.max(0, strength - steps);
                    if (loud < times.length) {
                        times[loud] += Long.bitCount(fitting[strength] & cells & ~closer);
                    }
                }
                closer = cells;
                cells |= nextTo(cells) & WIDEST;
            }
        }

        int faintestAt(int cell) {
            listenAt(cell);
            for (int loud = 0; loud < times.length; loud++) {
                if (times[loud] > 0) {
                    return loud;
                }
            }
            return NONE;
        }

        int loudestAt(int cell) {
            listenAt(cell);
            for (int loud = times.length - 1; loud >= 0; loud--) {
                if (times[loud] > 0) {
                    return loud;
                }
            }
            return NONE;
        }
    }

    /** Finds the cheapest code of blows, level by level of its tree. */
    private static final class Coder {
        private static final int TOO_DEAR = 1000000;
        private static final int DEEPEST_LEVEL = 2 * WORDS;

        private final int[] falling = new int[WORDS];
        private int many = 0;

        int cheapest(Talk talk) {
            many = Math.min(talk.many, WORDS);
            sort(talk);
            // A word alone would be the tree's root, but it has one blow at least.
            return many < 2 ? rest(0) : cost(0, 1, 0, 0);
        }

        private void sort(Talk talk) {
            for (int k = 0; k < many; k++) {
                int rank = talk.rankOf(k);
                if (rank >= 1 && rank <= falling.length) {
                    falling[rank - 1] = talk.oftenAt(k);
                }
            }
        }

        private int rest(int placed) {
            int sum = 0;
            for (int k = Math.max(placed, 0); k < many && k < falling.length; k++) {
                sum += falling[k];
            }
            return sum;
        }

        /** What the words that are not placed still cost, with knots open here and one blow deeper. */
        private int cost(int placed, int here, int deeper, int level) {
            if (placed + here + deeper > many || level > DEEPEST_LEVEL) {
                return TOO_DEAR;
            }
            if (here + deeper == 0) {
                return placed == many ? 0 : TOO_DEAR;
            }
            int least = TOO_DEAR;
            for (int words = 0; words <= here; words++) {
                int forks = here - words;
                int below = rest(placed + words) + cost(placed + words, deeper + forks, forks, level + 1);
                least = Math.min(least, below);
            }
            return least;
        }
    }
}
