import java.lang.reflect.InvocationTargetException;
import java.lang.reflect.Method;
import java.util.ArrayList;
import java.util.Arrays;
import java.util.Comparator;
import java.util.List;
import java.util.Map;
import java.util.Random;

/** All promises: runs of calls by fixed seeds on the class and on the plain model, whose answers must be alike. */
public final class RandomTest {
    private static final int RUNS = 400;
    private static final int CALLS = 512;
    private static final int[] ODD = {-1, -2, -3, 4, 9, 48, 99, 1000, Integer.MAX_VALUE, Integer.MIN_VALUE};
    private static final String[] MIXES = {"ccmg", "ccmg.", "cmgp...", "cmmgg.....pp", "c.........p", "cmgp", "mg", "."};

    /** For each number of each call the least and the most that are asked for as a rule. */
    private static final Map<String, int[]> RANGES = Map.ofEntries(
            Map.entry("feed", new int[] {0, 9, 0, 9, 0, 9, 0, 9, 0, 9}), Map.entry("end", new int[] {0, 40}),
            Map.entry("text", new int[] {0, 3, -1, 1}), Map.entry("fault", new int[] {0, 1}),
            Map.entry("hill", new int[] {0, 1, 0, 150}), Map.entry("deed", new int[] {0, 1, -1, 12, 0, 2}),
            Map.entry("stop", new int[] {0, 1, 0, 1}), Map.entry("state", new int[] {0, 1, 0, 1, 0, 40, 0, 7}),
            Map.entry("thick", new int[] {0, 1}), Map.entry("cuts", new int[] {0, 1, 0, 1, -1, 8}),
            Map.entry("fell", new int[] {0, 1, -2, 47}), Map.entry("rich", new int[] {0, 1, 0, 1, 0, 3, -2, 3}),
            Map.entry("duel", new int[] {0, 1, 0, 3}), Map.entry("border", new int[] {0, 1}),
            Map.entry("propped", new int[] {0, 1, 0, 47, -1, 1}), Map.entry("quake", new int[] {0, 1, 0, 10}),
            Map.entry("fact", new int[] {0, 1, -1, 8, 0, 1}), Map.entry("fits", new int[] {0, 1, 0, 40}),
            Map.entry("talk", new int[] {0, 1, -2, 8}), Map.entry("drawn", new int[] {0, 1, -9999, 9999, 0, 60, 0, 7}),
            Map.entry("path", new int[] {0, 1}), Map.entry("caves", new int[] {0, 1, 0, 3}),
            Map.entry("pillars", new int[] {0, 1, 0, 9}), Map.entry("nearer", new int[] {0, 1, 0, 1}),
            Map.entry("steady", new int[] {0, 1, 0, 1}), Map.entry("race", new int[] {0, 1, 0, 40, 0, 2}),
            Map.entry("after", new int[] {0, 1, 0, 1, 0, 2}), Map.entry("range", new int[] {0, 1, 0, 47}),
            Map.entry("plain", new int[] {0, 1, -1, 8}), Map.entry("comes", new int[] {0, 1, 0, 1, 0, 47}),
            Map.entry("crest", new int[] {0, 1}), Map.entry("shored", new int[] {0, 1, 0, 2, -1, 2}),
            Map.entry("streak", new int[] {0, 1, 0, 1}), Map.entry("within", new int[] {0, 1, 0, 47, 0, 12}),
            Map.entry("deepest", new int[] {0, 1}), Map.entry("count", new int[] {0, 3}),
            Map.entry("image", new int[] {0, 2}), Map.entry("again", new int[] {0, 2}));

    private final Random random;
    private final TwoQuarries x = new TwoQuarries();
    private final Model model = new Model();
    private final StringBuilder told = new StringBuilder();
    private String[] latest = {"cc", "cc"};
    private int calls = 0;

    private RandomTest(long seed) {
        random = new Random(seed);
    }

    public static void main(String[] args) throws Exception {
        for (int run = 0; run < RUNS; run++) {
            new RandomTest(run).run(run);
        }
        Check.close("RandomTest");
    }

    private void run(int run) throws Exception {
        List<Method> methods = new ArrayList<>();
        for (Method method : TwoQuarries.class.getDeclaredMethods()) {
            if (RANGES.containsKey(method.getName()) && java.lang.reflect.Modifier.isPublic(method.getModifiers())) {
                methods.add(method);
            }
        }
        methods.sort(Comparator.comparing(Method::getName));
        Check.due("how many methods are asked", methods.size(), RANGES.size());
        boolean goodTexts = run % 4 != 0;
        for (int sort = 0; sort < 4; sort++) {
            tell(run, sort, -1, goodTexts);
            tell(run, sort, -1, goodTexts);
        }
        while (calls < CALLS - 40) {
            Method method = methods.get(random.nextInt(methods.size()));
            if (random.nextInt(25) == 0) {
                tell(run, random.nextInt(4), random.nextInt(3) - 1, random.nextBoolean());
            }
            call(run, method);
        }
    }

    private void tell(int run, int sort, int at, boolean good) throws Exception {
        String text = good ? goodText(sort) : spoilt(goodText(sort));
        if (text.length() > 600) {
            text = text.substring(0, 600);
        }
        told.append("; ").append(sort).append(": ").append(text);
        invoke(run, TwoQuarries.class.getMethod("end", int.class), new Object[] {0});
        byte[] bytes = Arrays.copyOf(text.getBytes(java.nio.charset.StandardCharsets.ISO_8859_1), (text.length() + 19) / 20 * 20);
        for (int i = 0; i < bytes.length; i += 20) {
            Object[] fed = new Object[5];
            for (int k = 0; k < 5; k++) {
                fed[k] = java.nio.ByteBuffer.wrap(bytes, i + 4 * k, 4).getInt();
            }
            Class<?> n = int.class;
            invoke(run, TwoQuarries.class.getMethod("feed", n, n, n, n, n), fed);
        }
        invoke(run, TwoQuarries.class.getMethod("end", int.class), new Object[] {text.length()});
        invoke(run, TwoQuarries.class.getMethod("text", int.class, int.class), new Object[] {sort, at});
        invoke(run, TwoQuarries.class.getMethod("fault", int.class), new Object[] {0});
        invoke(run, TwoQuarries.class.getMethod("fault", int.class), new Object[] {1});
    }

    private String goodText(int sort) {
        StringBuilder text = new StringBuilder();
        if (sort == 0) {
            String mix = MIXES[random.nextInt(MIXES.length)];
            latest = Model.standing(2 + random.nextInt(7), 2 + random.nextInt(5), random, mix);
            return Check.textOf(latest);
        }
        if (sort == 1 && random.nextInt(4) != 0) {
            return Model.yearFor(latest, random.nextInt(41), random);
        }
        int most = sort == 1 ? 41 : sort == 2 ? 4 : 9;
        for (int i = random.nextInt(most); i > 0; i--) {
            text.append(line(sort));
        }
        return text.toString();
    }

    private String line(int sort) {
        int column = random.nextInt(random.nextBoolean() ? 3 : 8);
        int row = random.nextInt(random.nextBoolean() ? 3 : 6);
        if (sort == 1) {
            int deed = random.nextInt(7);
            String word = deed < 3 ? "north" : deed < 5 ? "south" : "prop";
            return deed == 6 ? "knock " + random.nextInt(9) + ";" : word + " " + column + " " + row + ";";
        }
        return sort == 2 ? "heard " + column + " " + row + " " + random.nextInt(6) + ";" : "word " + random.nextInt(100) + ";";
    }

    private String spoilt(String text) {
        StringBuilder signs = new StringBuilder(text);
        for (int i = random.nextInt(4); i > 0; i--) {
            int at = random.nextInt(signs.length() + 1);
            switch (random.nextInt(4)) {
                case 0:
                    signs.insert(at, "0123456789; \n\tabz".charAt(random.nextInt(17)));
                    break;
                case 1:
                    signs.delete(at, Math.min(signs.length(), at + 1 + random.nextInt(2)));
                    break;
                case 2:
                    signs.append(Model.kindName(random.nextInt(5))).append(" 7 5;");
                    break;
                default:
                    signs.insert(at, (char) random.nextInt(256));
                    break;
            }
        }
        return signs.toString();
    }

    private void call(int run, Method method) throws Exception {
        int[] range = RANGES.get(method.getName());
        Class<?>[] types = method.getParameterTypes();
        Object[] given = new Object[types.length];
        int at = 0;
        for (int i = 0; i < types.length; i++) {
            if (types[i] == boolean.class) {
                given[i] = random.nextBoolean();
            } else {
                given[i] = number(range[at], range[at + 1]);
                at += 2;
            }
        }
        boolean asState = method.getName().equals("state") || method.getName().equals("drawn");
        if (asState && random.nextInt(3) == 0) {
            given[3] = 100 + random.nextInt(50);
        }
        invoke(run, method, given);
    }

    private int number(int least, int most) {
        int dice = random.nextInt(60);
        if (dice == 0) {
            return ODD[random.nextInt(ODD.length)];
        }
        if (dice == 1) {
            return random.nextBoolean() ? least - 1 : most + 1;
        }
        return least + random.nextInt(most - least + 1);
    }

    private void invoke(int run, Method method, Object[] given) throws Exception {
        calls++;
        Method due = Model.class.getDeclaredMethod(method.getName(), method.getParameterTypes());
        String call = "run " + run + ", call " + calls + ": " + method.getName() + Arrays.toString(given);
        try {
            long got = asLong(method.invoke(x, given));
            long want = asLong(due.invoke(model, given));
            Check.due(got == want ? call : call + " behind " + told, got, want);
        } catch (InvocationTargetException thrown) {
            throw new IllegalStateException(call + " behind " + told, thrown.getCause());
        }
    }

    private static long asLong(Object answer) {
        return answer instanceof Boolean ? ((Boolean) answer ? 1L : 0L) : ((Number) answer).longValue();
    }
}
