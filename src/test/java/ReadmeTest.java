import java.io.IOException;
import java.lang.reflect.Modifier;
import java.net.URL;
import java.net.URLClassLoader;
import java.nio.charset.StandardCharsets;
import java.nio.file.Files;
import java.nio.file.Path;
import java.util.ArrayList;
import java.util.Arrays;
import java.util.List;
import java.util.Set;
import java.util.TreeSet;
import java.util.regex.Matcher;
import java.util.regex.Pattern;
import java.util.stream.Stream;
import javax.tools.ToolProvider;

/** README.md: its code compiles and answers what it says, and it names every call and every test. */
public final class ReadmeTest {
    private static final Path PAGE = Path.of("README.md");
    private static final Path TESTS = Path.of("src", "test", "java");
    private static final Path OUT = Path.of("build", "readme");
    private static final Pattern BLOCK = Pattern.compile("```java\n(.*?)```", Pattern.DOTALL);
    private static final Pattern ASKED = Pattern.compile("(.*\\)); +// ([-\\w]+)(: .*)?");
    private static final Pattern NAMED = Pattern.compile("^\\| `(\\w+Test)` \\|", Pattern.MULTILINE);

    private ReadmeTest() {
    }

    public static void main(String[] args) throws Exception {
        String page = Files.readString(PAGE, StandardCharsets.UTF_8);
        tryCode(page);
        tryCalls(page);
        tryTests(page);
        Check.close("ReadmeTest");
    }

    /** The first block of code has functions, the second one calls, each with its answer behind it. */
    private static void tryCode(String page) throws Exception {
        List<String> blocks = new ArrayList<>();
        for (Matcher block = BLOCK.matcher(page); block.find();) {
            blocks.add(block.group(1));
        }
        Check.due("blocks of code", blocks.size(), 2);
        List<String> calls = new ArrayList<>();
        List<String> due = new ArrayList<>();
        StringBuilder body = new StringBuilder();
        for (String line : blocks.get(1).split("\n")) {
            Matcher asked = ASKED.matcher(line);
            if (asked.matches()) {
                calls.add(asked.group(1));
                due.add(asked.group(2));
                body.append("found.add(").append(asked.group(1)).append(");\n");
            } else {
                Check.due("without an answer: '" + line + "'", line.contains("//"), false);
                body.append(line).append('\n');
            }
        }
        List<?> found = run(blocks.get(0), body.toString());
        Check.due("answers", found.size(), due.size());
        for (int i = 0; i < due.size(); i++) {
            String want = due.get(i).equals("NONE") ? String.valueOf(TwoQuarries.NONE) : due.get(i);
            String call = "README: " + calls.get(i) + " answered " + found.get(i) + " for " + want;
            Check.due(call, want.equals(String.valueOf(found.get(i))), true);
        }
    }

    private static List<?> run(String functions, String body) throws Exception {
        String code = "public final class ReadmeCode {\n"
                + "private static final int NONE = TwoQuarries.NONE;\n" + functions
                + "public static java.util.List<Object> answers() {\n"
                + "java.util.List<Object> found = new java.util.ArrayList<>();\n" + body + "return found;\n}\n}\n";
        Files.createDirectories(OUT);
        Path file = OUT.resolve("ReadmeCode.java");
        Files.writeString(file, code, StandardCharsets.UTF_8);
        int compiled = ToolProvider.getSystemJavaCompiler().run(null, null, null, "-proc:none", "-cp",
                System.getProperty("java.class.path"), "-d", OUT.toString(), file.toString());
        Check.due("javac of README's code", compiled, 0);
        URL[] where = {OUT.toUri().toURL()};
        try (URLClassLoader loader = new URLClassLoader(where, ReadmeTest.class.getClassLoader())) {
            return (List<?>) loader.loadClass("ReadmeCode").getMethod("answers").invoke(null);
        }
    }

    private static void tryCalls(String page) {
        Arrays.stream(TwoQuarries.class.getDeclaredMethods())
                .filter(method -> Modifier.isPublic(method.getModifiers()))
                .forEach(method -> Check.due("README has " + method.getName(),
                        page.contains("`" + method.getName() + "`"), true));
    }

    private static void tryTests(String page) throws IOException {
        Set<String> named = new TreeSet<>();
        for (Matcher test = NAMED.matcher(page); test.find();) {
            named.add(test.group(1));
        }
        Set<String> there = new TreeSet<>();
        try (Stream<Path> files = Files.list(TESTS)) {
            files.map(file -> file.getFileName().toString()).filter(name -> name.endsWith("Test.java"))
                    .forEach(name -> there.add(name.replace(".java", "")));
        }
        Check.due("README's tests " + named + " are those there are " + there, named.equals(there), true);
    }
}
