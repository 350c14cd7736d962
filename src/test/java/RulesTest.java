import java.lang.reflect.Constructor;
import java.lang.reflect.Field;
import java.lang.reflect.Method;
import java.lang.reflect.Modifier;
import java.nio.file.Files;
import java.nio.file.Path;
import java.util.Arrays;
import java.util.HashSet;
import java.util.List;
import java.util.Set;
import java.util.TreeSet;
import java.util.regex.Matcher;
import java.util.regex.Pattern;

/** The public face, and of LANGUAGE.md what can be seen from outside or in the words of the file. */
public final class RulesTest {
    private static final Path FILE = Path.of("src/main/java/SkittleGentry.java");
    private static final List<String> FACE = List.of(
        "feed(int)", "county()", "fault()", "told(int)", "skittle(int, int)", "plate(int)", "ball(int, int, int)",
        "setUp()", "lift(int)", "change(int, int)", "chip(int, int)", "replace(int)", "drift(int)", "undo()",
        "wouldFall(int, int, int, int)", "balls(int, int)", "spare(int, int)", "allDown(int)",
        "mend(int, int, int, int)", "hand(int)", "ask(int)", "calm(int, int)", "write(int, boolean)", "tear()",
        "judge()", "seed(int)", "keep(int)", "goBack(int)");
    private static final Due due = new Due();

    public static void main(String[] args) throws Exception {
        face();
        constants();
        classesInside();
        words();
        due.end();
    }

    private static void face() {
        Class<?> c = SkittleGentry.class;
        due.holds("the class is public and final",
            Modifier.isPublic(c.getModifiers()) && Modifier.isFinal(c.getModifiers()));
        Set<String> open = new TreeSet<>();
        Set<String> names = new HashSet<>();
        for (Method m : c.getDeclaredMethods()) {
            if (Modifier.isPublic(m.getModifiers())) {
                open.add(m.getName() + Arrays.toString(m.getParameterTypes()).replace('[', '(').replace(']', ')'));
                names.add(m.getName());
                due.holds(m.getName() + " answers an int", m.getReturnType() == int.class);
            }
        }
        due.holds("the public methods are " + open, open.equals(new TreeSet<>(FACE)));
        for (Method m : c.getDeclaredMethods()) {
            due.holds(m.getName() + " is public or private",
                Modifier.isPublic(m.getModifiers()) || Modifier.isPrivate(m.getModifiers()));
        }
        notNamedAlike(c, names);
        Constructor<?>[] made = c.getDeclaredConstructors();
        due.holds("one public constructor without parameters",
            made.length == 1 && made[0].getParameterCount() == 0 && Modifier.isPublic(made[0].getModifiers()));
    }

    private static void notNamedAlike(Class<?> c, Set<String> names) {
        for (Class<?> inside : c.getDeclaredClasses()) {
            for (Method m : inside.getDeclaredMethods()) {
                due.holds(inside.getSimpleName() + "." + m.getName() + " has a name of its own",
                    !names.contains(m.getName()));
            }
        }
        for (Method m : c.getDeclaredMethods()) {
            due.holds(m.getName() + " has a name of its own",
                Modifier.isPublic(m.getModifiers()) || !names.contains(m.getName()));
        }
    }

    private static void constants() throws Exception {
        String[] names = {"NONE", "UNKNOWN", "OUTSIDE", "NOT", "FULL"};
        int[] values = {-1, -1000000001, -1000000002, -1000000003, -1000000004};
        for (int i = 0; i < names.length; i++) {
            due.is(names[i], SkittleGentry.class.getField(names[i]).getInt(null), values[i]);
        }
        for (Field f : SkittleGentry.class.getDeclaredFields()) {
            boolean named = Arrays.asList(names).contains(f.getName());
            due.holds(f.getName() + " is public or private as it should be",
                named ? Modifier.isPublic(f.getModifiers()) : Modifier.isPrivate(f.getModifiers()));
            due.holds(f.getName() + " is final if static",
                !Modifier.isStatic(f.getModifiers()) || Modifier.isFinal(f.getModifiers()));
        }
    }

    private static void classesInside() {
        Class<?>[] inside = SkittleGentry.class.getDeclaredClasses();
        due.holds("twelve classes at most", inside.length < 12);
        for (Class<?> c : inside) {
            due.holds(c.getSimpleName() + " is static", Modifier.isStatic(c.getModifiers()));
            due.holds(c.getSimpleName() + " is not open", !Modifier.isPublic(c.getModifiers())
                && !Modifier.isProtected(c.getModifiers()));
            int fields = 0;
            for (Field f : c.getDeclaredFields()) {
                fields += Modifier.isStatic(f.getModifiers()) ? 0 : 1;
            }
            due.holds(c.getSimpleName() + " has twenty fields at most", fields <= 20);
        }
    }

    private static void words() throws Exception {
        String source = Files.readString(FILE);
        String code = source.replaceAll("(?s)/\\*.*?\\*/", "").replaceAll("//[^\n]*", "");
        String[] banned = {"throw", "try", "catch", "finally", "synchronized", "assert", "->", "::", "Exact\\(",
            "\\bSystem\\.(?!arraycopy)", "\\bRandom\\b", "\\bThread\\b", "\\bString\\b", "\\bObject\\b", "\\bpackage\\b"};
        for (String word : banned) {
            String whole = word.matches("\\w+") ? "\\b" + word + "\\b" : word;
            Matcher m = Pattern.compile(whole).matcher(code);
            due.holds("no '" + word + "' in the class", !m.find());
        }
        due.holds("the file's signs are 1 to 127", source.chars().allMatch(c -> c >= 1 && c <= 127));
        // Objects are made with the object itself alone, so that no run of calls fills the room.
        for (String line : code.split("\n")) {
            if (line.contains("new ")) {
                due.holds("made in a constructor: " + line.trim(),
                    line.contains("private final ") || line.trim().matches("\\w+\\[i\\] = new Gentry\\(\\);"));
            }
        }
    }
}
