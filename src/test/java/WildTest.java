import java.lang.reflect.InvocationTargetException;
import java.lang.reflect.Method;
import java.lang.reflect.Modifier;
import java.util.ArrayList;
import java.util.Comparator;
import java.util.List;
import java.util.Random;

/** No call throws, whatever it is given and whatever is so: each answers as PlainModel does. */
public final class WildTest {
    private static final int[] WILD = {
        Integer.MIN_VALUE, Integer.MIN_VALUE + 1, -1000000001, -512, -2, -1, 0, 1, 2, 3, 4, 5, 7, 8, 9, 10, 14, 15, 16,
        29, 30, 31, 32, 39, 40, 41, 59, 60, 61, 99, 100, 101, 240, 255, 256, 511, 512, 1023, 65536, 1 << 30,
        Integer.MAX_VALUE - 1, Integer.MAX_VALUE};
    private static final int RUNS = 150;
    private static final int CALLS = 400;
    private static final Due due = new Due();

    public static void main(String[] args) throws Exception {
        List<Method> methods = new ArrayList<>();
        for (Method method : SkittleGentry.class.getDeclaredMethods()) {
            if (Modifier.isPublic(method.getModifiers())) {
                methods.add(method);
            }
        }
        methods.sort(Comparator.comparing(Method::getName));
        String[] texts = {"", "g0;", "g9;s0 20 0;s3 1 9;", Due.NINE, Due.LIGHT, "g4;" + "s1 9 3;".repeat(9)};
        for (int run = 0; run < RUNS && due.wrong() < 20; run++) {
            go(methods, texts[run % texts.length], new Random(run));
        }
        due.end();
    }

    private static void go(List<Method> methods, String text, Random random) throws Exception {
        SkittleGentry x = new SkittleGentry();
        PlainModel m = new PlainModel();
        for (int i = 0; i < text.length(); i++) {
            x.feed(text.charAt(i));
            m.feed(text.charAt(i));
        }
        due.is("county() of '" + text + "'", x.county(), m.county());
        for (int call = 0; call < CALLS; call++) {
            Method method = methods.get(random.nextInt(methods.size()));
            // A new COUNTY ends a run's state, so it comes but seldom.
            if (method.getName().equals("county") && random.nextInt(20) > 0) {
                continue;
            }
            Object[] given = new Object[method.getParameterCount()];
            for (int i = 0; i < given.length; i++) {
                given[i] = method.getParameterTypes()[i] == boolean.class ? (Object) random.nextBoolean()
                    : (Object) WILD[random.nextInt(2) == 0 ? 5 + random.nextInt(6) : random.nextInt(WILD.length)];
            }
            Method plain = PlainModel.class.getDeclaredMethod(method.getName(), method.getParameterTypes());
            compare(x, m, method, plain, given);
        }
    }

    private static void compare(SkittleGentry x, PlainModel m, Method method, Method plain, Object[] given)
            throws Exception {
        String call = method.getName() + java.util.Arrays.toString(given);
        try {
            due.is(call, (Integer) method.invoke(x, given), (Integer) plain.invoke(m, given));
        } catch (InvocationTargetException e) {
            due.holds(call + " threw " + e.getCause(), false);
        }
    }
}
