/** Edges of SIGNS: terms 6 up to rivals, promises 36 and 37. */
public final class SignsEdgesTest {
    public static void main(String[] args) {
        Edges.run(SignsEdgesTest.class);
    }

    /** Three PLACES, NOW 9, and a sign is worth its KIND. */
    private static AshCity city() {
        AshCity x = Edges.withPlaces(3, 9);
        Due.rules(x, 0, 9999, "v1(k=1);v2(k=2);v3(k=3);v4(k=4);v5(k=5);v6(k=6);v7(k=7)");
        return x;
    }

    /** A NAME has SIGNS of these KINDS in PLACE 0. */
    private static void signs(AshCity x, int name, int... kinds) {
        for (int k : kinds) {
            x.sign(name, k, 0, 0);
        }
    }

    private static void who(AshCity x, int name, int worth, int rivals) {
        Due.is("who", x.who(0, 0), name);
        Due.is("worth", x.who(0, 1), worth);
        Due.is("rivals", x.who(0, 2), rivals);
    }

    @Says(in = 0, words = "SIGNS (100 at most): of a NAME (0 to 29), of a KIND (0 to 7), in a PLACE, found in a WEEK")
    static void signsAtMost() {
        Edges.range("name", 0, 29, n -> city().sign(n, 0, 0, 0));
        Edges.range("kind", 0, 7, k -> city().sign(0, k, 0, 0));
        Edges.range("place", 0, 2, p -> city().sign(0, 0, p, 0));
        Edges.range("week", 0, 9, w -> city().sign(0, 0, 0, w));
        AshCity x = city();
        for (int i = 0; i < 100; i++) {
            Due.yes("sign " + i, x.sign(29, 7, 0, 9));
        }
        Due.no("one more", x.sign(0, 0, 0, 0));
        who(x, 29, 700, 1);
    }

    @Says(in = 0, words = "its worth is THE NUMBER v on that WEEK (letters: that WEEK, HAND 0, its KIND, no MARKS, that PLACE)")
    static void worthOfASign() {
        String[] right = {"w=4", "h=0", "k=7", "m=0", "p=2"};
        String[] wrong = {"w=9", "h>0", "k=0", "m>0", "p<2"};
        for (int i = 0; i < right.length; i++) {
            Due.is(right[i], worthBy(right[i]), 198);
            Due.is(wrong[i], worthBy(wrong[i]), -1);
        }
        AshCity x = Edges.withPlaces(1, 9);
        Due.rules(x, 4, 5, "v10");
        int[] weeks = {3, 4, 5, 6};
        for (int w : weeks) {
            x.sign(0, 0, 0, w);
        }
        Due.is("by the rules of their weeks", x.who(0, 1), 20);
    }

    /** Two SIGNS of KIND 7 in a PLACE of KIND 2 in WEEK 4. */
    private static int worthBy(String condition) {
        AshCity x = Edges.withPlaces(3, 9);
        Due.rules(x, 0, 9999, "v99(" + condition + ")");
        x.sign(0, 7, 2, 4);
        x.sign(0, 7, 2, 4);
        return x.who(2, 1);
    }

    @Says(in = 0, words = "of NAMES with two SIGNS there or more that of most worth together (above 0)")
    static void twoSignsThere() {
        AshCity one = city();
        signs(one, 5, 7);
        who(one, -1, -1, -1);
        one.sign(5, 7, 1, 0);
        who(one, -1, -1, -1);
        signs(one, 5, 0);
        who(one, 5, 7, 1);
        AshCity nothing = city();
        signs(nothing, 5, 0, 0, 0);
        who(nothing, -1, -1, -1);
        signs(nothing, 6, 1, 0);
        who(nothing, 6, 1, 1);
        AshCity most = city();
        signs(most, 3, 7, 7);
        signs(most, 8, 5, 5, 5);
        signs(most, 1, 7);
        who(most, 8, 15, 2);
        AshCity last = city();
        signs(last, 29, 7, 7);
        signs(last, 0, 7, 6);
        who(last, 29, 14, 2);
    }

    @Says(in = 0, words = "of like ones the lowest")
    static void lowestName() {
        AshCity x = city();
        signs(x, 29, 3, 3);
        signs(x, 7, 1, 5);
        signs(x, 8, 6, 0);
        who(x, 7, 6, 3);
        signs(x, 0, 2, 2, 2);
        who(x, 0, 6, 4);
    }

    @Says(in = 0, words = "rivals are all NAMES with two or more whose worth is not below half of that")
    static void rivals() {
        AshCity even = city();
        signs(even, 0, 7, 7);
        signs(even, 1, 3, 4);
        who(even, 0, 14, 2);
        signs(even, 2, 3, 3);
        who(even, 0, 14, 2);
        signs(even, 3, 7);
        who(even, 0, 14, 2);
        AshCity odd = city();
        signs(odd, 0, 7, 6);
        signs(odd, 1, 3, 3);
        who(odd, 0, 13, 1);
        signs(odd, 2, 3, 4);
        who(odd, 0, 13, 2);
        AshCity all = city();
        for (int n = 0; n < 30; n++) {
            signs(all, n, 1, 0);
        }
        who(all, 0, 1, 30);
        signs(all, 29, 2);
        who(all, 29, 3, 1);
    }

    @Says(in = 36, words = "false: no such ones")
    static void noSuchSign() {
        AshCity x = city();
        int[][] wrong = {{-1, 7, 0, 0}, {30, 7, 0, 0}, {0, -1, 0, 0}, {0, 8, 0, 0}, {0, 7, -1, 0}, {0, 7, 3, 0}, {0, 7, 0, -1}, {Integer.MIN_VALUE, 7, 0, 0},
            {0, Integer.MAX_VALUE, 0, 0}, {0, 7, Integer.MIN_VALUE, 0}, {0, 7, 0, Integer.MIN_VALUE}};
        for (int[] w : wrong) {
            Due.no("sign " + java.util.Arrays.toString(w), x.sign(w[0], w[1], w[2], w[3]));
            Due.no("sign " + java.util.Arrays.toString(w), x.sign(w[0], w[1], w[2], w[3]));
        }
        Due.is("none is there", x.count(12), 0);
        who(x, -1, -1, -1);
        Due.no("without places", new AshCity().sign(0, 0, 0, 0));
    }

    @Says(in = 36, words = "a WEEK behind NOW")
    static void signBehindNow() {
        AshCity x = city();
        Due.no("10", x.sign(0, 7, 0, 10));
        Due.no("9999", x.sign(0, 7, 0, 9999));
        Due.no("far", x.sign(0, 7, 0, Integer.MAX_VALUE));
        Due.yes("9", x.sign(0, 7, 0, 9));
        x.now(10);
        Due.yes("10 then", x.sign(0, 7, 0, 10));
        x.now(9999);
        Due.yes("the last week", x.sign(0, 7, 0, 9999));
        Due.no("behind the last week", x.sign(0, 7, 0, 10000));
        who(x, 0, 21, 1);
    }

    @Says(in = 36, words = "100 are there")
    static void hundredSigns() {
        AshCity x = city();
        for (int i = 0; i < 98; i++) {
            x.sign(1, 0, 1, 0);
        }
        Due.yes("the 99th", x.sign(0, 7, 0, 0));
        Due.yes("the 100th", x.sign(0, 7, 0, 0));
        Due.no("a 101st", x.sign(0, 7, 0, 0));
        Due.is("100", x.count(12), 100);
        who(x, 0, 14, 1);
    }

    @Says(in = 37, words = "NONE: nobody, no such ones")
    static void nobody() {
        AshCity x = city();
        who(x, -1, -1, -1);
        signs(x, 4, 3, 3);
        x.sign(5, 3, 2, 0);
        x.sign(5, 3, 2, 0);
        Edges.range("place", 0, 0, p -> x.who(p, 0) == 4);
        Edges.range("what", 0, 2, what -> x.who(0, what) != -1);
        Due.is("the last place", x.who(2, 0), 5);
        Due.none("nobody between them", x.who(1, 0));
        Due.none("no place 3", x.who(3, 0));
        Due.none("no place -1", x.who(-1, 0));
        Due.none("without places", new AshCity().who(0, 0));
    }
}
