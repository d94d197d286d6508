import java.util.ArrayList;
import java.util.Arrays;
import java.util.Collections;
import java.util.HashMap;
import java.util.HashSet;
import java.util.List;
import java.util.Map;
import java.util.Set;
import java.util.TreeSet;
import java.math.BigInteger;
import java.util.regex.Matcher;
import java.util.regex.Pattern;

/**
 * The document again, as plainly as can be: every term is followed word by word and all is tried. It shares
 * no way of working with the class, so that both are unlikely to be wrong alike.
 */
final class Model {
    private static final int[] WORTH = {0, 1, 4, 2, 0};
    private static final int[] BLOWS = {0, 1, 2, 3, 0};
    private static final List<String> KINDS = List.of("air", "chalk", "marble", "granite", "prop");
    private static final List<String> DEEDS = List.of("north", "south", "prop", "knock");
    private static final Pattern TOKEN = Pattern.compile("[a-z]+|[0-9]+|.", Pattern.DOTALL);

    /** A hill, its cells by their numbers. */
    private static final class Ground {
        private final int wide;
        private final int high;
        private final int[] kind;

        Ground(int wide, int high) {
            this.wide = wide;
            this.high = high;
            this.kind = new int[wide * high];
            Arrays.fill(kind, 1);
        }

        Ground copy() {
            Ground g = new Ground(wide, high);
            System.arraycopy(kind, 0, g.kind, 0, kind.length);
            return g;
        }

        boolean isStone(int c) {
            return kind[c] >= 1 && kind[c] <= 3;
        }

        boolean isNoAir(int column, int row) {
            return column >= 0 && column < wide && kind[wide * row + column] != 0;
        }

        boolean stands(int c) {
            int row = c / wide;
            int column = c % wide;
            return row == high - 1 || isNoAir(column, row + 1) || (isNoAir(column - 1, row) && isNoAir(column + 1, row));
        }

        int fall() {
            int lost = 0;
            boolean again = true;
            while (again) {
                again = false;
                for (int c = 0; c < kind.length && !again; c++) {
                    if (kind[c] != 0 && !stands(c)) {
                        kind[c] = 0;
                        lost++;
                        again = true;
                    }
                }
            }
            return lost;
        }

        List<Integer> beside(int c) {
            List<Integer> found = new ArrayList<>();
            if (c >= wide) {
                found.add(c - wide);
            }
            if (c % wide < wide - 1) {
                found.add(c + 1);
            }
            if (c / wide < high - 1) {
                found.add(c + wide);
            }
            if (c % wide > 0) {
                found.add(c - 1);
            }
            return found;
        }

        boolean isOutermost(int side, int c) {
            return c % wide == (side == 0 ? 0 : wide - 1);
        }

        Set<Integer> reached(int side) {
            Set<Integer> found = new TreeSet<>();
            List<Integer> open = new ArrayList<>();
            for (int c = 0; c < kind.length; c++) {
                if (kind[c] == 0 && isOutermost(side, c)) {
                    open.add(c);
                }
            }
            while (!open.isEmpty()) {
                int c = open.remove(open.size() - 1);
                if (found.add(c)) {
                    for (int d : beside(c)) {
                        if (kind[d] == 0) {
                            open.add(d);
                        }
                    }
                }
            }
            return found;
        }

        List<Integer> cuts(int side) {
            Set<Integer> reached = reached(side);
            List<Integer> found = new ArrayList<>();
            for (int c = 0; c < kind.length; c++) {
                boolean near = isOutermost(side, c);
                for (int d : beside(c)) {
                    near |= reached.contains(d);
                }
                if (isStone(c) && near) {
                    found.add(c);
                }
            }
            return found;
        }

        int lostBy(int c) {
            Ground g = copy();
            g.kind[c] = 0;
            return g.fall();
        }

        List<Integer> safe(int side) {
            List<Integer> found = new ArrayList<>();
            for (int c : cuts(side)) {
                if (lostBy(c) == 0) {
                    found.add(c);
                }
            }
            return found;
        }

        /** To each cell the least of 1000 times stones and cells on a way there; huge if there is no way. */
        int[] ways(int side) {
            int[] least = new int[kind.length];
            Arrays.fill(least, 1000000);
            for (int round = 0; round <= kind.length; round++) {
                for (int c = 0; c < kind.length; c++) {
                    if (kind[c] == 4) {
                        continue;
                    }
                    int before = isOutermost(side, c) ? 0 : 1000000;
                    for (int d : beside(c)) {
                        before = Math.min(before, least[d]);
                    }
                    least[c] = Math.min(least[c], before + 1 + (isStone(c) ? 1000 : 0));
                }
            }
            return least;
        }

        int comes(int side, int c) {
            int way = ways(side)[c];
            return way >= 1000000 ? -1 : way / 1000;
        }

        int bestWay() {
            int best = 1000000;
            int[] ways = ways(0);
            for (int c = wide - 1; c < kind.length; c += wide) {
                best = Math.min(best, ways[c]);
            }
            return best;
        }

        int thick() {
            return bestWay() >= 1000000 ? -1 : bestWay() / 1000;
        }

        int path() {
            return bestWay() >= 1000000 ? -1 : bestWay() % 1000;
        }

        int worth(int c) {
            return WORTH[kind[c]];
        }

        int stones() {
            int n = 0;
            for (int c = 0; c < kind.length; c++) {
                n += isStone(c) ? 1 : 0;
            }
            return n;
        }
    }

    /** A year's or a drawn state. */
    private static final class Work {
        private final Ground ground;
        private final int[] worth = new int[2];
        private final int[] blows = new int[2];
        private int lost = 0;
        private int heard = 0;

        Work(Ground told) {
            ground = told.copy();
        }

        boolean cut(int side, int c) {
            if (!ground.cuts(side).contains(c)) {
                return false;
            }
            worth[side] += ground.worth(c);
            blows[side] += BLOWS[ground.kind[c]];
            ground.kind[c] = 0;
            lost += ground.fall();
            return true;
        }

        boolean prop(int c) {
            if (ground.kind[c] != 0) {
                return false;
            }
            ground.kind[c] = 4;
            return true;
        }

        void knock(int n) {
            int thick = ground.thick();
            heard += thick != -1 && thick <= n ? 1 : 0;
        }

        boolean act(int[] deed) {
            if (deed[0] == 3) {
                knock(deed[1]);
                return true;
            }
            if (deed[1] >= ground.wide || deed[2] >= ground.high) {
                return false;
            }
            int c = deed[2] * ground.wide + deed[1];
            return deed[0] == 2 ? prop(c) : cut(deed[0], c);
        }

        int answer(int what) {
            int[] first = {worth[0], worth[1], blows[0], blows[1], lost, ground.thick(), heard, ground.stones()};
            if (what >= 0 && what < 8) {
                return first[what];
            }
            return what >= 100 && what - 100 < ground.kind.length ? ground.kind[what - 100] : -2;
        }
    }

    private byte[] tape = new byte[0];
    private int fault = 0;
    private int place = -1;
    private List<Ground> hills = new ArrayList<>();
    private List<List<List<int[]>>> lines = List.of(new ArrayList<>(), new ArrayList<>(), new ArrayList<>(), new ArrayList<>());
    private final Map<Integer, Model> images = new HashMap<>();

    int feed(int a, int b, int c, int d, int e) {
        if (tape.length + 20 > 600) {
            return -1;
        }
        byte[] longer = Arrays.copyOf(tape, tape.length + 20);
        int[] fed = {a, b, c, d, e};
        for (int i = 0; i < 20; i++) {
            longer[tape.length + i] = (byte) (fed[i / 4] >> (24 - 8 * (i % 4)));
        }
        tape = longer;
        return tape.length;
    }

    int end(int n) {
        if (n < 0 || n > tape.length) {
            return -1;
        }
        tape = Arrays.copyOf(tape, n);
        return n;
    }

    int count(int sort) {
        return sort < 0 || sort > 3 ? -2 : lines.get(sort).size();
    }

    int fault(int what) {
        return what == 0 ? fault : what == 1 ? place : -1;
    }

    int text(int sort, int at) {
        String text = new String(tape, java.nio.charset.StandardCharsets.ISO_8859_1);
        tape = new byte[0];
        fault = 0;
        place = -1;
        if (sort < 0 || sort > 3 || at < -1 || at >= count(sort) || (at == -1 && count(sort) == 2)) {
            return -2;
        }
        List<int[]> found = read(sort, text);
        Ground ground = fault == 0 && sort == 0 ? build(found, text.length()) : null;
        if (fault != 0) {
            return -1;
        }
        int number = at == -1 ? count(sort) : at;
        put(lines.get(sort), number, found);
        if (sort == 0) {
            put(hills, number, ground);
        }
        return number;
    }

    private static <T> void put(List<T> list, int number, T x) {
        if (number == list.size()) {
            list.add(x);
        } else {
            list.set(number, x);
        }
    }

    private static List<String> words(int sort) {
        if (sort == 0) {
            return List.of("air", "chalk", "marble", "granite", "prop", "size");
        }
        return sort == 1 ? DEEDS : List.of(sort == 2 ? "heard" : "word");
    }

    private static int[][] bounds(int sort, int word) {
        int[] column = {0, 7};
        int[] row = {0, 5};
        if (sort == 0 && word == 5) {
            return new int[][] {{2, 8}, {2, 6}};
        }
        if (sort == 1 && word == 3) {
            return new int[][] {{0, 20}};
        }
        if (sort == 2) {
            return new int[][] {column, row, {0, 9}};
        }
        return sort == 3 ? new int[][] {{0, 99}} : new int[][] {column, row};
    }

    /** The lines of a text, each its word and its numbers; the fault and its place are noted. */
    private List<int[]> read(int sort, String text) {
        List<int[]> found = new ArrayList<>();
        List<String> tokens = new ArrayList<>();
        List<Integer> places = new ArrayList<>();
        Matcher matcher = TOKEN.matcher(text);
        while (matcher.find()) {
            if (!matcher.group().equals(" ") && !matcher.group().equals("\n")) {
                tokens.add(matcher.group());
                places.add(matcher.start());
            }
        }
        tokens.add("");
        places.add(text.length());
        int limit = sort == 0 ? 1000 : sort == 1 ? 40 : 8;
        int later = 0;
        int laterPlace = -1;
        int at = 0;
        while (!tokens.get(at).isEmpty()) {
            int word = words(sort).indexOf(tokens.get(at));
            if (word == -1) {
                return broken(places.get(at));
            }
            if (found.size() >= limit && later == 0) {
                later = 3;
                laterPlace = places.get(at);
            }
            int[][] bounds = bounds(sort, word);
            int[] line = {word, -1, -1, -1};
            for (int i = 0; i < bounds.length; i++) {
                at++;
                if (!tokens.get(at).matches("[0-9][0-9]?")) {
                    return broken(places.get(at));
                }
                line[i + 1] = Integer.parseInt(tokens.get(at));
                if ((line[i + 1] < bounds[i][0] || line[i + 1] > bounds[i][1]) && later == 0) {
                    later = 2;
                    laterPlace = places.get(at);
                }
            }
            at++;
            if (!tokens.get(at).equals(";")) {
                return broken(places.get(at));
            }
            at++;
            found.add(line);
        }
        fault = later;
        place = laterPlace;
        return found;
    }

    private List<int[]> broken(int where) {
        fault = 1;
        place = where;
        return List.of();
    }

    private Ground build(List<int[]> found, int end) {
        int wide = 6;
        int high = 4;
        for (int[] line : found) {
            if (line[0] == 5) {
                wide = line[1];
                high = line[2];
            }
        }
        Ground ground = new Ground(wide, high);
        for (int[] line : found) {
            if (line[0] != 5 && (line[1] >= wide || line[2] >= high)) {
                fault = 4;
                place = end;
                return null;
            }
            if (line[0] != 5) {
                ground.kind[line[2] * wide + line[1]] = line[0];
            }
        }
        for (int c = 0; c < ground.kind.length; c++) {
            if (ground.kind[c] != 0 && !ground.stands(c)) {
                fault = 5;
                place = end;
            }
        }
        return ground;
    }

    private Ground ground(int hill) {
        return hill < 0 || hill >= hills.size() ? null : hills.get(hill);
    }

    private List<int[]> lines(int sort, int i) {
        return i < 0 || i >= lines.get(sort).size() ? null : lines.get(sort).get(i);
    }

    private static int pick(List<Integer> cells, int k) {
        return k == -1 ? cells.size() : k < 0 || k >= cells.size() ? -1 : cells.get(k);
    }

    private static boolean isSide(int side) {
        return side == 0 || side == 1;
    }

    int hill(int hill, int what) {
        Ground g = ground(hill);
        if (g == null) {
            return -1;
        }
        int worth = 0;
        for (int c = 0; c < g.kind.length; c++) {
            worth += g.worth(c);
        }
        int[] first = {g.wide, g.high, g.stones(), worth};
        if (what >= 0 && what < 4) {
            return first[what];
        }
        return what >= 100 && what - 100 < g.kind.length ? g.kind[what - 100] : -1;
    }

    int deed(int year, int k, int what) {
        List<int[]> deeds = lines(1, year);
        if (deeds == null) {
            return -2;
        }
        if (k == -1 && what == 0) {
            return deeds.size();
        }
        return k < 0 || k >= deeds.size() || what < 0 || what > 2 ? -2 : deeds.get(k)[what];
    }

    int stop(int hill, int year) {
        if (ground(hill) == null || lines(1, year) == null) {
            return -1;
        }
        Work work = new Work(ground(hill));
        int stop = 0;
        for (int[] deed : lines(1, year)) {
            if (!work.act(deed)) {
                break;
            }
            stop++;
        }
        return stop;
    }

    private Work behind(int hill, int year, int n) {
        Work work = new Work(ground(hill));
        for (int[] deed : lines(1, year).subList(0, n)) {
            work.act(deed);
        }
        return work;
    }

    int state(int hill, int year, int n, int what) {
        return n < 0 || n > stop(hill, year) ? -2 : behind(hill, year, n).answer(what);
    }

    int thick(int hill) {
        return ground(hill) == null ? -1 : ground(hill).thick();
    }

    int path(int hill) {
        return ground(hill) == null ? -1 : ground(hill).path();
    }

    int cuts(int hill, int side, boolean safe, int k) {
        Ground g = ground(hill);
        return g == null || !isSide(side) ? -1 : pick(safe ? g.safe(side) : g.cuts(side), k);
    }

    int fell(int hill, int cell) {
        Ground g = ground(hill);
        if (g == null || cell < -2 || cell >= g.kind.length) {
            return -1;
        }
        if (cell >= 0) {
            return g.isStone(cell) ? g.lostBy(cell) : -1;
        }
        int weak = -1;
        for (int c = g.kind.length - 1; c >= 0; c--) {
            if (g.isStone(c) && (weak == -1 || g.lostBy(c) >= g.lostBy(weak))) {
                weak = c;
            }
        }
        return weak == -1 || cell == -2 ? weak : g.lostBy(weak);
    }

    /** All rows of up to n safe cuts, each with its worth as its first number. */
    private static void rows(Ground g, int side, int n, List<Integer> row, List<List<Integer>> all) {
        all.add(row);
        if (n == 0) {
            return;
        }
        for (int c : g.safe(side)) {
            List<Integer> longer = new ArrayList<>(row);
            longer.set(0, row.get(0) + g.worth(c));
            longer.add(c);
            Ground next = g.copy();
            next.kind[c] = 0;
            rows(next, side, n - 1, longer, all);
        }
    }

    private static int compareRows(List<Integer> a, List<Integer> b) {
        if (!a.get(0).equals(b.get(0))) {
            return b.get(0) - a.get(0);
        }
        for (int i = 1; i < a.size() && i < b.size(); i++) {
            if (!a.get(i).equals(b.get(i))) {
                return a.get(i) - b.get(i);
            }
        }
        return a.size() - b.size();
    }

    int rich(int hill, int side, int n, int k) {
        if (ground(hill) == null || !isSide(side) || n < 0 || n > 3 || k < -2) {
            return -1;
        }
        List<List<Integer>> all = new ArrayList<>();
        rows(ground(hill), side, n, List.of(0), all);
        List<Integer> best = Collections.min(all, Model::compareRows);
        if (k == -2) {
            return best.size() - 1;
        }
        return k == -1 ? best.get(0) : k < best.size() - 1 ? best.get(k + 1) : -1;
    }

    /** The lead of north in the end, when a given side does its best from here on; and what is cut first. */
    private static int[] duel(Ground g, int side, int n) {
        int nothing = g.kind.length;
        if (n == 0) {
            return new int[] {0, nothing};
        }
        int[] best = null;
        List<Integer> moves = g.cuts(side);
        moves.add(nothing);
        for (int c : moves) {
            Ground next = g.copy();
            int gain = 0;
            if (c != nothing) {
                gain = side == 0 ? g.worth(c) : -g.worth(c);
                next.kind[c] = 0;
                next.fall();
            }
            int lead = gain + duel(next, 1 - side, n - 1)[0];
            if (best == null || (side == 0 ? lead > best[0] : lead < best[0])) {
                best = new int[] {lead, c};
            }
        }
        return best;
    }

    int duel(int hill, int n, boolean first) {
        if (ground(hill) == null || n < 0 || n > 3 || (first && n == 0)) {
            return -1000;
        }
        return duel(ground(hill), 0, n)[first ? 1 : 0];
    }

    int border(int hill, boolean apart) {
        Ground g = ground(hill);
        if (g == null) {
            return -1;
        }
        int best = -1;
        int least = 1000000;
        for (int column = 0; column <= g.wide; column++) {
            int ahead = 0;
            int others = 0;
            for (int c = 0; c < g.kind.length; c++) {
                if (c % g.wide < column) {
                    ahead += g.worth(c);
                } else {
                    others += g.worth(c);
                }
            }
            if (Math.abs(ahead - others) < least) {
                least = Math.abs(ahead - others);
                best = column;
            }
        }
        return apart ? least : best;
    }

    private static List<Integer> airs(Ground g) {
        List<Integer> found = new ArrayList<>();
        for (int c = 0; c < g.kind.length; c++) {
            if (g.kind[c] == 0) {
                found.add(c);
            }
        }
        return found;
    }

    /** All rising rows of n of some cells, in their order. */
    private static List<List<Integer>> choices(List<Integer> cells, int n) {
        List<List<Integer>> all = new ArrayList<>();
        if (n == 0) {
            all.add(List.of());
        }
        for (int i = 0; i < cells.size() && n > 0; i++) {
            for (List<Integer> rest : choices(cells.subList(i + 1, cells.size()), n - 1)) {
                List<Integer> row = new ArrayList<>(List.of(cells.get(i)));
                row.addAll(rest);
                all.add(row);
            }
        }
        return all;
    }

    private static Ground with(Ground g, List<Integer> props) {
        Ground next = g.copy();
        for (int c : props) {
            next.kind[c] = 4;
        }
        return next;
    }

    int propped(int hill, int cell, int k) {
        Ground g = ground(hill);
        if (g == null || cell < 0 || cell >= g.kind.length || !g.isStone(cell)) {
            return -1;
        }
        for (int n = 0; n <= 2; n++) {
            for (List<Integer> props : choices(airs(g), n)) {
                Ground next = with(g, props);
                next.kind[cell] = 0;
                if (next.fall() == 0) {
                    return pick(props, k);
                }
            }
        }
        return -1;
    }

    long quake(int hill, int p, boolean under) {
        Ground g = ground(hill);
        if (g == null || p < 0 || p > 10) {
            return -1;
        }
        BigInteger[] mean = mean(g, g.kind.length - g.wide, p);
        BigInteger common = mean[0].gcd(mean[1]);
        return mean[under ? 1 : 0].divide(common).longValueExact();
    }

    /** The mean loss, over and under, if the lowest row is shaken from a cell on. */
    private static BigInteger[] mean(Ground g, int from, int p) {
        if (from >= g.kind.length) {
            return new BigInteger[] {BigInteger.valueOf(g.copy().fall()), BigInteger.ONE};
        }
        BigInteger[] stays = mean(g, from + 1, p);
        if (!g.isStone(from)) {
            return stays;
        }
        Ground without = g.copy();
        without.kind[from] = 0;
        BigInteger[] goes = mean(without, from + 1, p);
        BigInteger over = goes[0].multiply(stays[1]).multiply(BigInteger.valueOf(p))
                .add(stays[0].multiply(goes[1]).multiply(BigInteger.valueOf(10 - p)));
        BigInteger under = goes[1].multiply(stays[1]).multiply(BigInteger.TEN);
        BigInteger common = over.gcd(under);
        return new BigInteger[] {over.divide(common), under.divide(common)};
    }

    int fact(int log, int k, int what) {
        List<int[]> facts = lines(2, log);
        if (facts == null) {
            return -2;
        }
        if (k == -1 && what == 0) {
            return facts.size();
        }
        if (k < 0 || k >= facts.size() || what < 0 || what > 1) {
            return -2;
        }
        return what == 0 ? 8 * facts.get(k)[2] + facts.get(k)[1] : facts.get(k)[3];
    }

    private static int far(int cell, int column, int row) {
        return Math.abs(cell % 8 - column) + Math.abs(cell / 8 - row);
    }

    private static int hears(int fit, int column, int row) {
        int heard = fit % 9 + 1 - far(fit / 9, column, row);
        return heard < 0 ? 0 : heard;
    }

    private List<Integer> fitting(int log) {
        List<Integer> found = new ArrayList<>();
        for (int fit = 0; fit < 48 * 9; fit++) {
            boolean all = true;
            for (int[] fact : lines(2, log)) {
                all &= hears(fit, fact[1], fact[2]) == fact[3];
            }
            if (all) {
                found.add(fit);
            }
        }
        return found;
    }

    int fits(int log, int what) {
        if (lines(2, log) == null) {
            return -2;
        }
        List<Integer> fitting = fitting(log);
        Set<Integer> cells = new HashSet<>();
        Set<Integer> strengths = new HashSet<>();
        for (int fit : fitting) {
            cells.add(fit / 9);
            strengths.add(fit % 9 + 1);
        }
        int[] first = {fitting.size(), cells.size() == 1 ? cells.iterator().next() : -1,
            strengths.size() == 1 ? strengths.iterator().next() : -1, ask(fitting)};
        if (what >= 0 && what < 4) {
            return first[what];
        }
        return what >= 10 && what - 10 < fitting.size() ? fitting.get(what - 10) : -2;
    }

    private static int ask(List<Integer> fitting) {
        int best = -1;
        int least = 1000;
        for (int cell = 0; cell < 48 && !fitting.isEmpty(); cell++) {
            List<Integer> heard = new ArrayList<>();
            for (int fit : fitting) {
                heard.add(hears(fit, cell % 8, cell / 8));
            }
            int most = 0;
            for (int much = 0; much <= 9; much++) {
                most = Math.max(most, Collections.frequency(heard, much));
            }
            if (most < least) {
                least = most;
                best = cell;
            }
        }
        return best;
    }

    int range(int log, int cell, boolean most) {
        if (lines(2, log) == null || cell < 0 || cell > 47) {
            return -1;
        }
        TreeSet<Integer> heard = new TreeSet<>();
        for (int fit : fitting(log)) {
            heard.add(hears(fit, cell % 8, cell / 8));
        }
        return heard.isEmpty() ? -1 : most ? heard.last() : heard.first();
    }

    int within(int log, int cell, int n) {
        if (lines(2, log) == null || cell < 0 || cell > 47 || n < 0 || n > 12) {
            return -1;
        }
        int found = 0;
        for (int fit : fitting(log)) {
            found += far(fit / 9, cell % 8, cell / 8) <= n ? 1 : 0;
        }
        return found;
    }

    /** The lengths of the words of every code whose tree forks at each knot, for n words. */
    private static Set<List<Integer>> codes(int n) {
        Set<List<Integer>> all = new HashSet<>();
        if (n == 1) {
            all.add(List.of(0));
        }
        for (int shorts = 1; shorts < n; shorts++) {
            for (List<Integer> left : codes(shorts)) {
                for (List<Integer> right : codes(n - shorts)) {
                    List<Integer> both = new ArrayList<>();
                    left.forEach(x -> both.add(x + 1));
                    right.forEach(x -> both.add(x + 2));
                    Collections.sort(both);
                    all.add(both);
                }
            }
        }
        return all;
    }

    private static Set<List<Integer>> lengths(int n) {
        return n == 1 ? Set.of(List.of(1)) : codes(n);
    }

    private List<Integer> often(int talk) {
        List<Integer> often = new ArrayList<>();
        for (int[] word : lines(3, talk)) {
            often.add(word[1]);
        }
        return often;
    }

    int talk(int talk, int k) {
        if (lines(3, talk) == null || k < -2) {
            return -1;
        }
        List<Integer> often = often(talk);
        if (k != -2 || often.isEmpty()) {
            return k == -2 ? 0 : pick(often, k);
        }
        often.sort(Collections.reverseOrder());
        int least = 1000000;
        for (List<Integer> code : lengths(often.size())) {
            int sum = 0;
            for (int i = 0; i < code.size(); i++) {
                sum += code.get(i) * often.get(i);
            }
            least = Math.min(least, sum);
        }
        return least;
    }

    int deepest(int talk) {
        if (lines(3, talk) == null) {
            return -1;
        }
        int n = lines(3, talk).size();
        int least = n == 0 ? 0 : 1000000;
        for (List<Integer> code : n == 0 ? Set.<List<Integer>>of() : lengths(n)) {
            least = Math.min(least, Collections.max(code));
        }
        return least;
    }

    int plain(int talk, int k) {
        if (lines(3, talk) == null || k < -1) {
            return -1;
        }
        List<Integer> often = often(talk);
        List<Integer> order = new ArrayList<>();
        for (int i = 0; i < often.size(); i++) {
            order.add(i);
        }
        order.sort((a, b) -> often.get(b) - often.get(a));
        int sum = 0;
        for (int i = 0; i < order.size(); i++) {
            sum += (i + 1) * often.get(order.get(i));
        }
        return k == -1 ? sum : k >= often.size() ? -1 : order.indexOf(k) + 1;
    }

    int drawn(int hill, int seed, int n, int what) {
        if (ground(hill) == null || n < 0 || n > 60) {
            return -2;
        }
        Work work = new Work(ground(hill));
        long x = seed & 0xFFFFFFFFL;
        for (int i = 0; i < n; i++) {
            x = (x * 1103515245L + 12345L) & 0xFFFFFFFFL;
            int kind = (int) ((x >> 16) % 8);
            x = (x * 1103515245L + 12345L) & 0xFFFFFFFFL;
            int c = (int) ((x >> 16) % work.ground.kind.length);
            if (kind < 6) {
                work.cut(kind < 3 ? 0 : 1, c);
            } else if (kind == 6) {
                work.prop(c);
            } else {
                work.knock((int) ((x >> 16) % 10));
            }
        }
        return work.answer(what);
    }

    int caves(int hill, int what) {
        Ground g = ground(hill);
        if (g == null || what < 0 || what > 3) {
            return -1;
        }
        if (what == 3) {
            boolean alike = true;
            for (int c = 0; c < g.kind.length; c++) {
                alike &= g.kind[c] == g.kind[c / g.wide * g.wide + g.wide - 1 - c % g.wide];
            }
            return alike ? 1 : 0;
        }
        return what == 2 ? longest(g, airs(g)) : caves(g)[what];
    }

    private static int[] caves(Ground g) {
        Set<Integer> seen = new HashSet<>();
        int many = 0;
        int largest = 0;
        for (int c : airs(g)) {
            if (seen.contains(c)) {
                continue;
            }
            many++;
            int size = 0;
            List<Integer> open = new ArrayList<>(List.of(c));
            while (!open.isEmpty()) {
                int d = open.remove(0);
                if (g.kind[d] == 0 && seen.add(d)) {
                    size++;
                    open.addAll(g.beside(d));
                }
            }
            largest = Math.max(largest, size);
        }
        return new int[] {many, largest};
    }

    private static int longest(Ground g, List<Integer> cells) {
        int longest = 0;
        for (int c : cells) {
            int run = 0;
            while (c % g.wide + run < g.wide && cells.contains(c + run)) {
                run++;
            }
            longest = Math.max(longest, run);
        }
        return longest;
    }

    int pillars(int hill, int n) {
        Ground g = ground(hill);
        if (g == null || n < 0 || n > 48) {
            return -1;
        }
        int found = 0;
        for (int c = 0; c < g.kind.length; c++) {
            found += g.isStone(c) && g.lostBy(c) >= n ? 1 : 0;
        }
        return found;
    }

    int nearer(int hill, int side) {
        Ground g = ground(hill);
        if (g == null || !isSide(side)) {
            return -1;
        }
        int worth = 0;
        for (int c = 0; c < g.kind.length; c++) {
            int mine = g.comes(side, c);
            int theirs = g.comes(1 - side, c);
            if (g.isStone(c) && mine != -1 && (theirs == -1 || mine < theirs)) {
                worth += g.worth(c);
            }
        }
        return worth;
    }

    int comes(int hill, int side, int cell) {
        Ground g = ground(hill);
        return g == null || !isSide(side) || cell < 0 || cell >= g.kind.length ? -1 : g.comes(side, cell);
    }

    int steady(int hill, int side, boolean worth) {
        if (ground(hill) == null || !isSide(side)) {
            return -1;
        }
        Ground g = ground(hill).copy();
        int many = 0;
        int sum = 0;
        while (!g.safe(side).isEmpty()) {
            int c = g.safe(side).get(0);
            many++;
            sum += g.worth(c);
            g.kind[c] = 0;
        }
        return worth ? sum : many;
    }

    int race(int hill, int n, int what) {
        if (ground(hill) == null || n < 0 || n > 40 || what < 0 || what > 2) {
            return -2;
        }
        Ground g = ground(hill).copy();
        int[] worth = new int[2];
        for (int turn = 0; turn < n; turn++) {
            int best = -1;
            for (int c : g.safe(turn % 2)) {
                if (best == -1 || g.worth(c) > g.worth(best)) {
                    best = c;
                }
            }
            if (best != -1) {
                worth[turn % 2] += g.worth(best);
                g.kind[best] = 0;
            }
        }
        return what == 2 ? g.thick() : worth[what];
    }

    int after(int hill, int year, int what) {
        if (ground(hill) == null || lines(1, year) == null || what < 0 || what > 2) {
            return -2;
        }
        int eye = -1;
        int worst = -1;
        int most = 0;
        for (int n = stop(hill, year); n >= 0; n--) {
            Work work = behind(hill, year, n);
            if (work.ground.thick() == 0) {
                eye = n;
            }
            int lost = n == 0 ? 0 : work.lost - behind(hill, year, n - 1).lost;
            if (lost > 0 && lost >= most) {
                most = lost;
                worst = n - 1;
            }
        }
        return what == 0 ? eye : what == 1 ? worst : most;
    }

    int crest(int hill, boolean worth) {
        Ground g = ground(hill);
        if (g == null) {
            return -1;
        }
        int best = 0;
        int most = -1;
        for (int row = 0; row < g.high; row++) {
            int sum = 0;
            for (int column = 0; column < g.wide; column++) {
                sum += g.worth(row * g.wide + column);
            }
            if (sum > most) {
                most = sum;
                best = row;
            }
        }
        return worth ? most : best;
    }

    int shored(int hill, int n, int k) {
        Ground g = ground(hill);
        if (g == null || n < 0 || n > 2) {
            return -1;
        }
        List<Integer> best = null;
        int most = -1;
        for (List<Integer> props : choices(airs(g), n)) {
            Ground next = with(g, props);
            boolean stand = true;
            for (int c : props) {
                stand &= next.stands(c);
            }
            if (stand && next.safe(0).size() + next.safe(1).size() > most) {
                most = next.safe(0).size() + next.safe(1).size();
                best = props;
            }
        }
        return best == null || k == -1 ? most : pick(best, k);
    }

    int streak(int hill, int side) {
        Ground g = ground(hill);
        return g == null || !isSide(side) ? -1 : longest(g, g.safe(side));
    }

    boolean image(int k) {
        if (k < 0 || k > 2) {
            return false;
        }
        Model kept = new Model();
        kept.takeOver(this);
        images.put(k, kept);
        return true;
    }

    boolean again(int k) {
        if (!images.containsKey(k)) {
            return false;
        }
        takeOver(images.get(k));
        return true;
    }

    private void takeOver(Model other) {
        tape = other.tape.clone();
        fault = other.fault;
        place = other.place;
        hills = new ArrayList<>(other.hills);
        List<List<List<int[]>>> copies = new ArrayList<>();
        other.lines.forEach(list -> copies.add(new ArrayList<>(list)));
        lines = copies;
    }

    /** A hill's drawing of random kinds from which all that does not stand has fallen. */
    static String[] standing(int wide, int high, java.util.Random random, String kinds) {
        Ground g = new Ground(wide, high);
        for (int c = 0; c < g.kind.length; c++) {
            g.kind[c] = ".cmgp".indexOf(kinds.charAt(random.nextInt(kinds.length())));
        }
        g.fall();
        String[] rows = new String[high];
        for (int row = 0; row < high; row++) {
            StringBuilder signs = new StringBuilder();
            for (int column = 0; column < wide; column++) {
                signs.append(".cmgp".charAt(g.kind[row * wide + column]));
            }
            rows[row] = signs.toString();
        }
        return rows;
    }

    /** A year's text of so many deeds, nearly all of which can be in a hill as drawn. */
    static String yearFor(String[] rows, int many, java.util.Random random) {
        Ground told = new Ground(rows[0].length(), rows.length);
        for (int c = 0; c < told.kind.length; c++) {
            told.kind[c] = ".cmgp".indexOf(rows[c / told.wide].charAt(c % told.wide));
        }
        Work work = new Work(told);
        StringBuilder text = new StringBuilder();
        for (int i = 0; i < many; i++) {
            int kind = random.nextInt(7) / 2;
            List<Integer> cells = kind < 2 ? work.ground.cuts(kind) : airs(work.ground);
            if (kind == 3 || cells.isEmpty()) {
                text.append("knock ").append(random.nextInt(7)).append(';');
                continue;
            }
            int c = random.nextInt(60) == 0 ? random.nextInt(told.kind.length) : cells.get(random.nextInt(cells.size()));
            int[] deed = {kind, c % told.wide, c / told.wide};
            work.act(deed);
            text.append(DEEDS.get(kind)).append(' ').append(deed[1]).append(' ').append(deed[2]).append(';');
        }
        return text.toString();
    }

    static String kindName(int kind) {
        return KINDS.get(kind);
    }
}
