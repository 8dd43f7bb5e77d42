/** Promises 36 and 37: sign, who. */
public final class SignsTest {
    public static void main(String[] args) {
        wrongSigns();
        hundred();
        who();
        rivals();
        leastWorth();
        letters();
        Due.end();
    }

    private static void wrongSigns() {
        AshCity x = new AshCity();
        x.place(0, 0, 0);
        x.now(5);
        int[][] wrong = {{-1, 0, 0, 0}, {30, 0, 0, 0}, {0, -1, 0, 0}, {0, 8, 0, 0}, {0, 0, -1, 0}, {0, 0, 1, 0}, {0, 0, 0, -1}, {0, 0, 0, 6}};
        for (int[] w : wrong) {
            Due.no("sign " + java.util.Arrays.toString(w), x.sign(w[0], w[1], w[2], w[3]));
        }
        Due.is("none", x.count(12), 0);
        Due.is("who -1", x.who(-1, 0), -1);
        Due.is("who 1", x.who(1, 0), -1);
        Due.rules(x, 0, 9, "v9");
        x.sign(29, 7, 0, 5);
        x.sign(29, 7, 0, 5);
        Due.is("who", x.who(0, 0), 29);
        Due.is("who what -1", x.who(0, -1), -1);
        Due.is("who what 3", x.who(0, 3), -1);
    }

    private static void hundred() {
        AshCity x = new AshCity();
        x.place(0, 0, 0);
        for (int i = 0; i < 100; i++) {
            Due.yes("sign " + i, x.sign(3, 0, 0, 0));
        }
        Due.no("a 101st", x.sign(3, 0, 0, 0));
        Due.is("100", x.count(12), 100);
        Due.is("worth nothing", x.who(0, 0), -1);
        Due.rules(x, 0, 9, "v99");
        Due.is("worth", x.who(0, 1), 9900);
    }

    private static void who() {
        AshCity x = new AshCity();
        x.place(0, 0, 0);
        x.place(0, 1, 1);
        Due.rules(x, 0, 9, "v10;v50(k=1);v0(k=2)");
        x.sign(7, 1, 0, 0);
        Due.is("one sign is not enough", x.who(0, 0), -1);
        x.sign(7, 1, 1, 0);
        Due.is("nor one in another place", x.who(0, 0), -1);
        x.sign(5, 0, 0, 0);
        x.sign(5, 0, 0, 0);
        Due.is("who", x.who(0, 0), 5);
        Due.is("worth", x.who(0, 1), 20);
        Due.is("rivals", x.who(0, 2), 1);
        x.sign(4, 2, 0, 0);
        x.sign(4, 2, 0, 0);
        Due.is("worth nothing", x.who(0, 2), 1);
        x.sign(7, 2, 0, 0);
        Due.is("a second sign, worth nothing", x.who(0, 0), 7);
        Due.is("50", x.who(0, 1), 50);
        Due.is("20 is below half of 50", x.who(0, 2), 1);
    }

    private static void rivals() {
        AshCity x = new AshCity();
        x.place(0, 0, 0);
        Due.rules(x, 0, 9, "v10;v5(k=1);v1(k=2)");
        int[][] rows = {{9, 0}, {9, 2}, {8, 1}, {8, 2}, {3, 0}, {3, 2}, {2, 1}, {2, 0}};
        for (int[] r : rows) {
            x.sign(r[0], r[1], 0, 0);
        }
        Due.is("15", x.who(0, 0), 2);
        Due.is("6 is below half of 15, 11 not", x.who(0, 2), 3);
        x.sign(3, 2, 0, 0);
        x.sign(3, 2, 0, 0);
        x.sign(3, 2, 0, 0);
        x.sign(3, 2, 0, 0);
        Due.is("of like ones the lowest", x.who(0, 0), 2);
        x.sign(1, 0, 0, 0);
        x.sign(1, 1, 0, 0);
        Due.is("of like ones the lowest", x.who(0, 0), 1);
        x.sign(8, 2, 0, 0);
        Due.is("7 is below half of 15", x.who(0, 2), 4);
        x.sign(8, 2, 0, 0);
        Due.is("8 is not", x.who(0, 2), 5);
        x.sign(1, 2, 0, 0);
        Due.is("8 is just half of 16", x.who(0, 2), 5);
    }

    private static void leastWorth() {
        AshCity x = new AshCity();
        x.place(0, 0, 0);
        Due.rules(x, 0, 9, "v1(k=1)");
        x.sign(0, 0, 0, 0);
        x.sign(0, 1, 0, 0);
        x.sign(1, 1, 0, 0);
        x.sign(1, 1, 0, 0);
        Due.is("two are worth more", x.who(0, 0), 1);
        Due.is("half of it is a rival", x.who(0, 2), 2);
        AshCity y = new AshCity();
        y.place(0, 0, 0);
        Due.rules(y, 0, 9, "v1(k=1)");
        y.sign(0, 0, 0, 0);
        y.sign(0, 1, 0, 0);
        Due.is("one is above 0", y.who(0, 0), 0);
        Due.is("one", y.who(0, 1), 1);
    }

    private static void letters() {
        AshCity x = new AshCity();
        x.place(2, 0, 0);
        x.now(9);
        Due.rules(x, 4, 4, "v33(w=4&h=0&k=6&m=0&p=2)");
        x.sign(0, 6, 0, 4);
        x.sign(0, 6, 0, 5);
        Due.is("worth", x.who(0, 1), 33);
        Due.rules(x, 5, 5, "v1");
        Due.is("as rules are now", x.who(0, 1), 34);
    }
}
