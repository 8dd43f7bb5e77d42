import java.lang.reflect.InvocationTargetException;
import java.lang.reflect.Method;
import java.util.ArrayList;
import java.util.Arrays;
import java.util.List;
import java.util.function.Consumer;

/** A call that is refused changes nothing: each call of the face, by each argument that is not there and at each limit. */
public final class RefusedEdgesTest {
    private static final int FAR_BELOW = Integer.MIN_VALUE;
    private static final int FAR_ABOVE = Integer.MAX_VALUE;

    public static void main(String[] args) {
        Edges.run(RefusedEdgesTest.class);
    }

    private static int call(AshCity x, String name, int... values) {
        for (Method m : AshCity.class.getMethods()) {
            if (m.getName().equals(name) && m.getParameterCount() == values.length) {
                Object[] all = new Object[values.length];
                for (int i = 0; i < values.length; i++) {
                    all[i] = m.getParameterTypes()[i] == boolean.class ? (Object) (values[i] == 1) : (Object) values[i];
                }
                return answer(x, m, all);
            }
        }
        throw new IllegalStateException("no " + name);
    }

    private static int answer(AshCity x, Method m, Object[] values) {
        try {
            Object got = m.invoke(x, values);
            return got instanceof Boolean ? (Boolean) got ? 1 : 0 : (Integer) got;
        } catch (IllegalAccessException | InvocationTargetException e) {
            throw new IllegalStateException(m.getName() + Arrays.toString(values), e);
        }
    }

    private static boolean isBoolean(String name) {
        return List.of("city", "now", "strike", "means", "gone", "ash", "above", "height", "sign").contains(name);
    }

    /** In a city like another one the call is refused, and then both are alike in all that can be seen. */
    private static void refused(Consumer<AshCity> ahead, int due, String name, int... values) {
        AshCity x = Furnished.city();
        AshCity y = Furnished.city();
        ahead.accept(x);
        ahead.accept(y);
        String words = name + Arrays.toString(values);
        Due.is(words, call(x, name, values), due);
        compare(words, "what is seen", Furnished.seen(x), Furnished.seen(y));
        compare(words, "the tape", Furnished.tapeOf(x), Furnished.tapeOf(y));
    }

    private static void refused(String name, int... values) {
        refused(x -> { }, isBoolean(name) ? 0 : -1, name, values);
    }

    private static void compare(String words, String what, List<Integer> got, List<Integer> due) {
        boolean same = got.equals(due);
        Due.yes(words + " leaves " + what + (same ? "" : ": " + got + " instead of " + due), same);
    }

    /** With each argument in turn just below and above what it may be, and far away; the others are as they are told. */
    private static void eachArgument(int refusal, String name, int[] right, int... ranges) {
        for (int i = 0; i < right.length; i++) {
            int[] wrong = {ranges[2 * i] - 1, ranges[2 * i + 1] + 1, FAR_BELOW, FAR_ABOVE};
            for (int w : wrong) {
                int[] values = right.clone();
                values[i] = w;
                refused(x -> { }, refusal, name, values);
            }
        }
    }

    private static void eachArgument(String name, int[] right, int... ranges) {
        eachArgument(isBoolean(name) ? 0 : -1, name, right, ranges);
    }

    private static int[] of(int... values) {
        return values;
    }

    @Says(in = 0, words = "A call that is refused (NONE, false) changes nothing but the tape, where it is told.")
    static void theCityIsFurnished() {
        AshCity x = Furnished.city();
        int[] due = {22, 10, 4, 3, 3, 2, 3, 3, 2, 4, 1, 2, 4, 2, 20, 2};
        for (int i = 0; i < due.length; i++) {
            Due.is("count " + i, x.count(i), due[i]);
        }
        List<Integer> seen = Furnished.seen(x);
        Due.yes("asking changes nothing", seen.equals(Furnished.seen(x)));
        int told = 0;
        for (int s : seen) {
            told += s > 0 ? 1 : 0;
        }
        Due.yes("there is much to see: " + told, told > 80);
        compare("a city", "the tape", Furnished.tapeOf(x), new ArrayList<>(List.of(2, 77, 0)));
    }

    @Says(in = 0, words = "A call that is refused (NONE, false) changes nothing but the tape, where it is told.")
    static void groundArguments() {
        eachArgument("now", of(22), 22, 9999);
        eachArgument("place", of(0, 3, 3), 0, 2, 0, 39, 0, 39);
        eachArgument("placeOf", of(0), 0, 39);
        eachArgument("dig", of(0, 1, 0, 0, 0, 0, 0, 0), 0, 7, 0, 2, 0, 39, 0, 39, 0, 7, 0, 7, 0, 22, 0, 22);
        eachArgument("strike", of(0), 0, 2);
        eachArgument("ground", of(0, 0, 0, 0), 0, 39, 0, 7, 0, 9999, 0, 9999);
        eachArgument("first", of(2, 0, 22, 22), 0, 39, 0, 7, 0, 9999, 0, 9999);
        refused("city", 10, 4);
        refused("city", 4, 4);
        refused("city", 3, 11);
        refused("place", 0, 12, 11);
        refused("place", 0, 0, 39);
        refused("place", 0, 12, 13);
        refused("dig", 0, 0, 0, 0, 1, 1, 0, 0);
        refused("dig", 0, 1, 12, 11, 0, 0, 0, 0);
        refused("dig", 0, 1, 0, 0, 1, 0, 0, 0);
        refused("dig", 0, 1, 0, 0, 0, 0, 1, 0);
        refused("strike", 1);
        refused("first", 0, 7, 22, 22);
    }

    @Says(in = 0, words = "A call that is refused (NONE, false) changes nothing but the tape, where it is told.")
    static void ruleArguments() {
        eachArgument("means", of(0, 1, 0, 0, 9999), 0, 3, 1, 99, 0, 2, 0, 9999, 0, 9999);
        eachArgument("meaning", of(0, 5, 0), 0, 3, 1, 99, 0, 9999);
        eachArgument("rules", of(0, 9999, 6), 0, 9999, 0, 9999, 1, 20);
        eachArgument("number", of(0, 0, 0, 0, 0, 0), 0, 3, 0, 9999, 0, 7, 0, 7, 0, 255, -1, 2);
        refused("means", 0, 5, 1, 6, 5);
        refused("rules", 6, 5, 6);
        refused("rules", 0, 9999, 160);
        refused("meaning", 3, 5, 0);
    }

    @Says(in = 0, words = "A call that is refused (NONE, false) changes nothing but the tape, where it is told.")
    static void findArguments() {
        eachArgument("find", of(0, 0, 0, 0, 0, 0, 0, 0), 0, 7, 0, 22, 0, 19, 0, 99, 0, 7, 0, 7, 0, 7, 0, 255);
        eachArgument("may", of(0, 22), 0, 2, 20, 9999);
        eachArgument("sure", of(22), 0, 9999);
        eachArgument("nowhere", of(0, 22), 0, 0, 20, 9999);
        eachArgument("barred", of(0), 0, 1);
        eachArgument("beside", of(0), 0, 7);
        refused("find", 0, 1, 0, 0, 0, 0, 0, 0);
        refused("find", 0, 0, 0, 0, 1, 0, 0, 0);
        refused("find", 0, 2, 22, 0, 0, 0, 0, 0);
    }

    @Says(in = 0, words = "A call that is refused (NONE, false) changes nothing but the tape, where it is told.")
    static void museumArguments() {
        eachArgument("thing", of(0, 0, 0), 0, 9, 0, 7, 0, 255);
        eachArgument("like", of(0, 0), 0, 2, 0, 2);
        eachArgument("join", of(0), 0, 8);
        eachArgument("joined", of(0), 0, 1);
        eachArgument("lost", of(0, 0), 0, 20, 0, 1);
        int[] noThings = {-1, 3, FAR_BELOW, FAR_ABOVE};
        for (int k : noThings) {
            refused("gone", k, 0);
            refused("gone", k, 1);
        }
        refused("gone", 2, 1);
        refused("gone", 0, 0);
        refused("lost", 101, 0);
        refused("lost", 21, 1);
    }

    @Says(in = 0, words = "A call that is refused (NONE, false) changes nothing but the tape, where it is told.")
    static void wallArguments() {
        eachArgument("wall", of(0, 0), 0, 2, 0, 10000);
        eachArgument("draw", of(0, 0, 0), 0, 1, 0, 22, 0, 255);
        eachArgument("copy", of(0, 22), 0, 3, 0, 22);
        eachArgument("stood", of(0, 0, 22, 0), 0, 1, 0, 1, 20, 9999, 0, 3);
        eachArgument("work", of(0, 1, 1), 0, 1, 1, 10000, 1, 100);
        eachArgument("best", of(0), 0, 100000);
        eachArgument("saves", of(0), 0, 3);
    }

    @Says(in = 0, words = "A call that is refused (NONE, false) changes nothing but the tape, where it is told.")
    static void ashAndSignArguments() {
        eachArgument("ash", of(0, 0, 99), 0, 7, 0, 99, 0, 99);
        eachArgument("above", of(2, 3), 0, 7, 0, 7);
        eachArgument("hour", of(0, 0), 0, 7, 0, 1);
        eachArgument("height", of(0, 0), 0, 39, 0, 8);
        eachArgument("hollow", of(0, 0), 0, 39, 0, 7);
        eachArgument("way", of(0), 0, 1);
        eachArgument("sign", of(0, 0, 0, 0), 0, 29, 0, 7, 0, 2, 0, 22);
        eachArgument("who", of(0, 0), 0, 0, 0, 2);
        eachArgument("count", of(0), 0, 15);
        eachArgument("count", of(20), 20, 21);
        refused("ash", 0, 6, 5);
        refused("above", 3, 3);
    }

    @Says(in = 0, words = "A call that is refused (NONE, false) changes nothing but the tape, where it is told.")
    static void whatIsRefusedWithLessThanNone() {
        eachArgument(-2, "check", of(0), 0, 1);
        AshCity x = Furnished.city();
        AshCity y = Furnished.city();
        Due.is("join of no such finds", x.join(2), -2);
        Due.is("the tape is empty", x.count(14), 0);
        Due.feed(x, Furnished.TEXT);
        compare("join of no such finds", "all but the tape", Furnished.seen(x), Furnished.seen(y));
        AshCity z = Furnished.city();
        Due.is("lost of no such finds", z.lost(2, 1), -2);
        Due.feed(z, Furnished.TEXT);
        compare("lost of no such finds", "all but the tape", Furnished.seen(z), Furnished.seen(y));
        AshCity fault = Furnished.city();
        Due.is("a fault", fault.rules(0, 9999, 4), -1000 - 4);
        Due.feed(fault, Furnished.TEXT);
        compare("a fault", "all but the tape", Furnished.seen(fault), Furnished.seen(y));
    }

    /** So often the call is taken; then it is refused. */
    private static void full(int more, String name, int... values) {
        Consumer<AshCity> filling = x -> {
            for (int i = 0; i < more; i++) {
                int before = call(x, name, values);
                Due.no(name + " " + i + " of " + more + " is refused", before == (isBoolean(name) ? 0 : -1));
            }
        };
        refused(filling, isBoolean(name) ? 0 : -1, name, values);
    }

    @Says(in = 0, words = "A call that is refused (NONE, false) changes nothing but the tape, where it is told.")
    static void atTheLimits() {
        full(97, "dig", 0, 0, 25, 25, 0, 0, 0, 0);
        full(198, "means", 2, 1, 2, 0, 9999);
        full(19, "feed", 1, 2, 3, 4, 5);
        full(147, "find", 0, 12, 12, 0, 0, 0, 0, 0);
        full(57, "thing", 9, 0, 0);
        full(28, "wall", 0, 1);
        full(96, "draw", 1, 22, 255);
        full(96, "copy", 0, 22);
        full(39, "above", 6, 7);
        full(38, "hollow", 13, 0);
        full(96, "sign", 3, 1, 0, 0);
        full(7, "work", 0, 1, 1);
        refused(x -> {
            for (int i = 0; i < 27; i++) {
                Due.is("place", x.place(0, i < 7 ? 3 + i : 6 + i, i < 7 ? 3 + i : 6 + i), 3 + i);
            }
        }, -1, "place", 0, 37, 37);
        refused(x -> {
            for (int i = 0; i < 18; i++) {
                x.check(0);
                Due.is("rules", Due.rules(x, 0, 9999, "v1"), 2 + i);
            }
            Due.feed(x, Furnished.TEXT);
        }, -1, "rules", 0, 9999, 6);
    }
}
