import java.lang.reflect.Constructor;
import java.lang.reflect.Field;
import java.lang.reflect.Method;
import java.lang.reflect.Modifier;
import java.util.Arrays;
import java.util.Set;
import java.util.TreeSet;

/** The public face is the document's, and nothing else of the class can be seen from outside. */
public final class FaceTest {
    private static final String[] FACE = {
        "int feed(int, int, int, int, int)", "int end(int)", "int text(int, int)", "int fault(int)", "int hill(int, int)",
        "int deed(int, int, int)", "int stop(int, int)", "int state(int, int, int, int)", "int thick(int)",
        "int cuts(int, int, boolean, int)", "int fell(int, int)", "int rich(int, int, int, int)",
        "int duel(int, int, boolean)", "int border(int, boolean)", "int propped(int, int, int)",
        "long quake(int, int, boolean)", "int fact(int, int, int)", "int fits(int, int)", "int talk(int, int)",
        "int drawn(int, int, int, int)", "int path(int)", "int caves(int, int)", "int pillars(int, int)",
        "int nearer(int, int)", "int steady(int, int, boolean)", "int race(int, int, int)", "int after(int, int, int)",
        "int range(int, int, boolean)", "int plain(int, int)", "int comes(int, int, int)", "int crest(int, boolean)",
        "int shored(int, int, int)", "int streak(int, int)", "int within(int, int, int)", "int deepest(int)",
        "int count(int)", "boolean image(int)", "boolean again(int)"};

    private FaceTest() {
    }

    public static void main(String[] args) {
        Class<?> face = TwoQuarries.class;
        Check.due("public and final", face.getModifiers(), Modifier.PUBLIC | Modifier.FINAL);
        Set<String> due = new TreeSet<>(Arrays.asList(FACE));
        for (Method method : face.getDeclaredMethods()) {
            if (Modifier.isPrivate(method.getModifiers())) {
                Check.due("a private " + method.getName(), hasName(method.getName()), false);
            } else {
                String types = Arrays.toString(Arrays.stream(method.getParameterTypes()).map(Class::getName).toArray());
                String form = method.getReturnType() + " " + method.getName() + "(" + types.substring(1, types.length() - 1) + ")";
                Check.due("public " + form, method.getModifiers(), Modifier.PUBLIC);
                Check.due("of the face: " + form, due.remove(form), true);
            }
        }
        Check.due("missing: " + due, due.size(), 0);
        for (Constructor<?> constructor : face.getDeclaredConstructors()) {
            Check.due("constructor", constructor.getModifiers(), Modifier.PUBLIC);
            Check.due("constructor's parameters", constructor.getParameterCount(), 0);
        }
        for (Field field : face.getDeclaredFields()) {
            boolean isNone = field.getName().equals("NONE");
            Check.due("public " + field.getName(), Modifier.isPublic(field.getModifiers()), isNone);
            Check.due("private " + field.getName(), Modifier.isPrivate(field.getModifiers()), !isNone);
        }
        for (Class<?> inside : face.getDeclaredClasses()) {
            Check.due("static " + inside.getName(), Modifier.isStatic(inside.getModifiers()), true);
            Check.due("not public " + inside.getName(), Modifier.isPublic(inside.getModifiers()), false);
        }
        Check.close("FaceTest");
    }

    private static boolean hasName(String name) {
        return Arrays.stream(FACE).anyMatch(form -> form.contains(" " + name + "("));
    }
}
