import java.lang.reflect.InvocationTargetException;
import java.lang.reflect.Method;
import java.util.ArrayList;
import java.util.Comparator;
import java.util.List;
import java.util.function.IntPredicate;

/** Runs the tests of a class that bear the document's words, each on objects of its own; and what they share. */
public final class Edges {
    private Edges() {
    }

    /** Each test stands for words that the document really says, and asks something. */
    public static void run(Class<?> tests) {
        Document document = new Document();
        for (Method test : testsOf(tests)) {
            Says says = test.getAnnotation(Says.class);
            Due.about(test.getName() + " (" + (says.in() == 0 ? "terms" : "promise " + says.in()) + ": " + says.words() + "): ");
            int before = Due.asked();
            call(test);
            boolean asks = Due.asked() > before;
            Due.yes("the test asks something", asks);
            Due.yes("the document says so", document.promise(says.in()).contains(says.words()));
        }
        Due.end();
    }

    private static List<Method> testsOf(Class<?> tests) {
        List<Method> found = new ArrayList<>();
        for (Method m : tests.getDeclaredMethods()) {
            if (m.isAnnotationPresent(Says.class)) {
                found.add(m);
            }
        }
        found.sort(Comparator.comparing(Method::getName));
        return found;
    }

    private static void call(Method test) {
        try {
            test.invoke(null);
        } catch (InvocationTargetException e) {
            Due.yes("threw " + e.getCause(), false);
        } catch (IllegalAccessException e) {
            Due.yes("can't be run: " + e, false);
        }
    }

    /** Of an argument just the numbers from least to most are taken. */
    public static void range(String argument, int least, int most, IntPredicate taken) {
        int[] right = {least, least + (most - least) / 2, most};
        int[] wrong = {least - 1, most + 1, -least - 2, most + 256, Integer.MIN_VALUE, Integer.MAX_VALUE};
        for (int value : right) {
            Due.yes(argument + " " + value + " is taken", taken.test(value));
        }
        for (int value : wrong) {
            Due.no(argument + " " + value + " is taken", taken.test(value));
        }
    }

    public static AshCity at(int week) {
        AshCity x = new AshCity();
        x.now(week);
        return x;
    }

    /** A city with single cells 0, 1, 2 .. as PLACES of the KINDS 0, 1, 2, 0 .. */
    public static AshCity withPlaces(int places, int week) {
        AshCity x = at(week);
        for (int i = 0; i < places; i++) {
            x.place(i % 3, i, i);
        }
        return x;
    }

    /** The condition of an only CLAUSE, asked by letters (p of a PLACE of that KIND; -1: none). */
    public static boolean holds(String condition, int w, int h, int k, int m, int p) {
        AshCity x = withPlaces(3, 0);
        Due.is("rules by " + condition, Due.rules(x, 0, 9999, "v7(" + condition + ")"), 0);
        return x.number(1, w, h, k, m, p) == 7;
    }

    public static boolean holds(String condition) {
        return holds(condition, 0, 0, 0, 0, -1);
    }

    /** What RULES by a TEXT answer in a new city. */
    public static int rules(String text) {
        return Due.rules(new AshCity(), 0, 9999, text);
    }
}
