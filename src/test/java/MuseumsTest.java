/** Promises 20 to 25: thing, gone, like, join, joined, lost. */
public final class MuseumsTest {
    public static void main(String[] args) {
        things();
        gone();
        like();
        mostFinds();
        mostMarks();
        leastRow();
        wrongJoins();
        eightOfSixty();
        lost();
        nextIsTheLowest();
        wrongLost();
        Due.end();
    }

    private static AshCity withFinds(int kind, int... marks) {
        AshCity x = new AshCity();
        for (int m : marks) {
            x.find(0, 0, 0, 0, 0, 0, kind, m);
        }
        return x;
    }

    private static void things() {
        AshCity x = new AshCity();
        int[][] wrong = {{-1, 0, 0}, {10, 0, 0}, {0, -1, 0}, {0, 8, 0}, {0, 0, -1}, {0, 0, 256}};
        for (int[] w : wrong) {
            Due.is("thing " + java.util.Arrays.toString(w), x.thing(w[0], w[1], w[2]), -1);
        }
        for (int i = 0; i < 60; i++) {
            Due.is("thing " + i, x.thing(9, 7, 255), i);
        }
        Due.is("a 61st", x.thing(0, 0, 0), -1);
        Due.is("60", x.count(7), 60);
    }

    private static void gone() {
        AshCity x = withFinds(0, 5);
        x.thing(0, 0, 5);
        Due.no("gone -1", x.gone(-1, true));
        Due.no("gone 1", x.gone(1, true));
        Due.no("it is there", x.gone(0, false));
        Due.is("like", x.like(0, 0), 1);
        Due.yes("gone", x.gone(0, true));
        Due.no("gone already", x.gone(0, true));
        Due.is("not like", x.like(0, 0), 0);
        Due.yes("back", x.gone(0, false));
        Due.is("like again", x.like(0, 0), 1);
    }

    private static void like() {
        AshCity x = new AshCity();
        x.now(20);
        x.find(3, 7, 9, 0, 0, 0, 2, 0xF0);
        x.thing(0, 2, 0xF0);
        x.thing(0, 2, 0xF1);
        x.thing(0, 2, 0x0F);
        x.thing(0, 1, 0xF0);
        Due.is("all eight agree", x.like(0, 0), 1);
        Due.is("seven agree", x.like(0, 1), 0);
        Due.is("another kind", x.like(0, 3), 0);
        Due.rules(x, 7, 7, "a7");
        Due.is("seven are enough", x.like(0, 1), 1);
        Due.is("none agrees", x.like(0, 2), 0);
        Due.rules(x, 8, 9, "a8");
        Due.is("its first week counts", x.like(0, 1), 1);
        Due.rules(x, 0, 9999, "a0(w=7&h=3&k=2&m=240&p+1=0)");
        Due.is("none need agree", x.like(0, 2), 1);
        Due.is("still another kind", x.like(0, 3), 0);
        Due.is("like -1 0", x.like(-1, 0), -1);
        Due.is("like 1 0", x.like(1, 0), -1);
        Due.is("like 0 -1", x.like(0, -1), -1);
        Due.is("like 0 4", x.like(0, 4), -1);
    }

    private static void row(AshCity x, int... due) {
        for (int i = 0; i < due.length; i++) {
            Due.is("row " + i, x.joined(i), due[i]);
        }
        Due.is("row's end", x.joined(due.length), -1);
        Due.is("row -1", x.joined(-1), -1);
    }

    /** The first FIND must leave the THING that it fits best, for the second is LIKE no other. */
    private static void mostFinds() {
        AshCity x = withFinds(0, 0, 3);
        x.thing(0, 0, 0);
        x.thing(0, 0, 64 + 128);
        Due.rules(x, 0, 9, "a6");
        Due.feedBytes(x, 0, 1);
        Due.is("both get one", x.join(2), 2);
        row(x, 1, 0);
        Due.feedBytes(x, 1, 0);
        Due.is("in their order", x.join(2), 2);
        row(x, 0, 1);
        Due.feedBytes(x, 1);
        Due.is("alone", x.join(1), 1);
        row(x, 0);
        x.gone(0, true);
        Due.feedBytes(x, 1, 0);
        Due.is("one is gone", x.join(2), 1);
        row(x, 60, 1);
    }

    private static void mostMarks() {
        AshCity x = withFinds(0, 0, 0);
        x.thing(0, 0, 7);
        x.thing(0, 0, 3);
        x.thing(0, 0, 1);
        Due.rules(x, 0, 9, "a0");
        Due.feedBytes(x, 0, 1);
        Due.is("two", x.join(2), 2);
        row(x, 1, 2);
        x.thing(0, 0, 0);
        Due.feedBytes(x, 0);
        Due.is("one", x.join(1), 1);
        row(x, 3);
    }

    private static void leastRow() {
        AshCity x = withFinds(0, 0, 0, 0);
        for (int i = 0; i < 4; i++) {
            x.thing(0, 0, 0);
        }
        Due.feedBytes(x, 2, 0, 1);
        Due.is("three", x.join(3), 3);
        row(x, 0, 1, 2);
        AshCity y = withFinds(0, 0, 0);
        y.thing(0, 0, 0);
        Due.feedBytes(y, 0, 1);
        Due.is("one for two", y.join(2), 1);
        row(y, 0, 60);
    }

    private static void wrongJoins() {
        AshCity x = withFinds(0, 0, 1, 2, 3, 4, 5, 6, 7, 8);
        x.thing(0, 0, 1);
        Due.is("of an empty tape", x.join(1), -1);
        Due.is("none", x.join(0), 0);
        row(x);
        Due.feedBytes(x, 1);
        Due.is("join -1", x.join(-1), -1);
        Due.is("join 9", x.join(9), -1);
        Due.is("the tape stays", x.count(14), 20);
        Due.is("one", x.join(1), 1);
        row(x, 0);
        Due.is("empty then", x.count(14), 0);
        Due.feedBytes(x, 1, 2, 1);
        Due.is("one twice", x.join(3), -2);
        Due.is("empty then, too", x.count(14), 0);
        row(x, 0);
        Due.feedBytes(x, 9);
        Due.is("no such find", x.join(1), -2);
        Due.feedBytes(x, 255);
        Due.is("no find 255", x.join(1), -2);
        row(x, 0);
        Due.feedBytes(x, 0, 1, 2, 3, 4, 5, 6, 7);
        Due.is("eight", x.join(8), 1);
        row(x, 60, 0, 60, 60, 60, 60, 60, 60);
    }

    private static void eightOfSixty() {
        AshCity x = withFinds(0, 0, 0, 0, 0, 0, 0, 0, 255);
        for (int i = 0; i < 60; i++) {
            x.thing(0, 0, i < 50 ? 15 : 0);
        }
        Due.rules(x, 0, 9, "a0");
        Due.feedBytes(x, 7, 6, 5, 4, 3, 2, 1, 0);
        Due.is("eight", x.join(8), 8);
        row(x, 0, 50, 51, 52, 53, 54, 55, 56);
    }

    private static void lost() {
        AshCity x = withFinds(0, 0, 1, 2, 3, 4);
        int[][] things = {{3, 0, 0}, {3, 0, 1}, {5, 0, 2}, {5, 0, 3}, {7, 0, 3}, {7, 0, 2}, {8, 0, 99}};
        for (int[] t : things) {
            x.thing(t[0], t[1], t[2]);
        }
        for (int k = 0; k < 7; k++) {
            x.gone(k, true);
        }
        lost(x, 0, 5, 0, 1, 2, 3, 4);
        lost(x, 1, 3, 0, 1, 2, 3, 4);
        lost(x, 1, 5, 1, 2, 3);
        lost(x, 1, -1, 4);
        lost(x, 0, 1, 4);
        x.gone(0, false);
        lost(x, 0, 4, 0, 1, 2, 3, 4);
        lost(x, 1, 5, 0, 1, 2, 3, 4);
        x.gone(3, false);
        lost(x, 1, 3, 0, 1, 2, 3, 4);
        x.gone(1, false);
        lost(x, 0, 2, 0, 1, 2, 3, 4);
        lost(x, 1, 5, 4, 2);
        lost(x, 1, -1, 0);
        Due.is("of none", x.lost(0, 0), 0);
        Due.is("next of none", x.lost(0, 1), -1);
    }

    private static void lost(AshCity x, int what, int due, int... finds) {
        Due.feedBytes(x, finds);
        Due.is("lost " + java.util.Arrays.toString(finds) + " " + what, x.lost(finds.length, what), due);
        Due.is("empty then", x.count(14), 0);
    }

    private static void nextIsTheLowest() {
        AshCity x = withFinds(0, 1, 2);
        x.thing(0, 0, 1);
        x.thing(9, 0, 2);
        x.gone(0, true);
        x.gone(1, true);
        lost(x, 1, 0, 0, 1);
        x.gone(0, false);
        lost(x, 1, 9, 0, 1);
    }

    private static void wrongLost() {
        int[] marks = new int[101];
        AshCity x = withFinds(0, marks);
        int[] all = new int[101];
        for (int i = 0; i < 101; i++) {
            all[i] = i;
        }
        Due.feedBytes(x, all);
        Due.is("lost -1", x.lost(-1, 0), -1);
        Due.is("lost 101", x.lost(101, 0), -1);
        Due.is("lost what -1", x.lost(5, -1), -1);
        Due.is("lost what 2", x.lost(5, 2), -1);
        Due.is("the tape stays", x.count(14), 120);
        Due.is("a hundred", x.lost(100, 0), 100);
        Due.is("empty", x.count(14), 0);
        Due.is("not so many", x.lost(1, 0), -1);
        Due.feedBytes(x, 5, 6, 5);
        Due.is("one twice", x.lost(3, 0), -2);
        Due.is("empty then", x.count(14), 0);
        Due.feedBytes(x, 5, 101);
        Due.is("no such find", x.lost(2, 1), -2);
        Due.is("empty then", x.count(14), 0);
    }
}
