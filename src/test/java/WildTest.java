import java.lang.reflect.InvocationTargetException;
import java.lang.reflect.Method;
import java.lang.reflect.Modifier;
import java.util.ArrayList;
import java.util.Comparator;
import java.util.List;
import java.util.Random;

/** Far more calls than 512, with any arguments: nothing is ever thrown, and one object answers as another does. */
public final class WildTest {
    private static final int OBJECTS = 40;
    private static final int CALLS = 8000;
    private static final int[] FAR = {Integer.MIN_VALUE, Integer.MIN_VALUE + 1, -10000, -100, -2, -1, 10000, 9999, Integer.MAX_VALUE - 1, Integer.MAX_VALUE};

    public static void main(String[] args) throws IllegalAccessException {
        List<Method> methods = new ArrayList<>();
        for (Method m : AshCity.class.getDeclaredMethods()) {
            if (Modifier.isPublic(m.getModifiers())) {
                methods.add(m);
            }
        }
        methods.sort(Comparator.comparing(Method::getName));
        Due.is("methods", methods.size(), 42);
        for (int seed = 0; seed < OBJECTS; seed++) {
            run(new Random(seed), methods);
        }
        Due.end();
    }

    private static void run(Random r, List<Method> methods) throws IllegalAccessException {
        AshCity x = new AshCity();
        AshCity y = new AshCity();
        int most = 1 << r.nextInt(10);
        RuleTexts texts = new RuleTexts(r);
        for (int i = 0; i < CALLS; i++) {
            Method m = methods.get(r.nextInt(methods.size()));
            Object[] values = new Object[m.getParameterCount()];
            for (int k = 0; k < values.length; k++) {
                int value = r.nextInt(30) == 0 ? FAR[r.nextInt(FAR.length)] : r.nextInt(r.nextBoolean() ? 3 : most);
                values[k] = m.getParameterTypes()[k] == boolean.class ? (Object) r.nextBoolean() : (Object) value;
            }
            if (m.getName().equals("rules") && r.nextInt(3) > 0) {
                String text = texts.right(10, 160);
                x.check(0);
                y.check(0);
                Due.feed(x, text);
                Due.feed(y, text);
                values[2] = text.length();
            }
            compare(m, x, y, values);
        }
    }

    private static void compare(Method m, AshCity x, AshCity y, Object[] values) throws IllegalAccessException {
        try {
            Due.yes(m.getName() + java.util.Arrays.toString(values), m.invoke(x, values).equals(m.invoke(y, values)));
        } catch (InvocationTargetException e) {
            Due.yes(m.getName() + java.util.Arrays.toString(values) + " threw " + e.getCause(), false);
        }
    }
}
