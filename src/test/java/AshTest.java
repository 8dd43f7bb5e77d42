/** Promises 30 to 35: ash, above, hour, height, hollow, way. */
public final class AshTest {
    public static void main(String[] args) {
        ash();
        cuts();
        chain();
        cannotBe();
        heights();
        hollows();
        ways();
        border();
        directions();
        corners();
        Due.end();
    }

    private static void ash() {
        AshCity x = new AshCity();
        int[][] wrong = {{-1, 0, 0}, {8, 0, 0}, {0, -1, 0}, {0, 0, 100}, {0, 5, 4}};
        for (int[] w : wrong) {
            Due.no("ash " + java.util.Arrays.toString(w), x.ash(w[0], w[1], w[2]));
        }
        hours(x, 0, 0, 99);
        hours(x, 7, 0, 99);
        Due.yes("ash", x.ash(7, 5, 5));
        hours(x, 7, 5, 5);
        Due.yes("ash anew", x.ash(7, 0, 99));
        hours(x, 7, 0, 99);
        Due.is("hour -1", x.hour(-1, 0), -1);
        Due.is("hour 8", x.hour(8, 0), -1);
        Due.is("hour what -1", x.hour(0, -1), -1);
        Due.is("hour what 2", x.hour(0, 2), -1);
    }

    private static void hours(AshCity x, int l, int earliest, int latest) {
        Due.is("earliest of " + l, x.hour(l, 0), earliest);
        Due.is("latest of " + l, x.hour(l, 1), latest);
    }

    private static void cuts() {
        AshCity x = new AshCity();
        Due.no("above -1", x.above(-1, 0));
        Due.no("above 8", x.above(8, 0));
        Due.no("above 0 -1", x.above(0, -1));
        Due.no("above 0 8", x.above(0, 8));
        Due.no("above 3 3", x.above(3, 3));
        Due.is("no cuts", x.count(10), 0);
        for (int i = 0; i < 40; i++) {
            Due.yes("cut " + i, x.above(i % 7, 7));
        }
        Due.no("a 41st", x.above(0, 7));
        Due.is("40", x.count(10), 40);
        hours(x, 0, 1, 99);
        hours(x, 7, 0, 98);
    }

    private static void chain() {
        AshCity x = new AshCity();
        for (int l = 0; l < 7; l++) {
            x.above(l, l + 1);
        }
        for (int l = 0; l < 8; l++) {
            hours(x, l, 7 - l, 99 - l);
        }
        x.ash(3, 50, 51);
        hours(x, 0, 53, 99);
        hours(x, 2, 51, 97);
        hours(x, 4, 3, 50);
        hours(x, 7, 0, 47);
        AshCity y = new AshCity();
        for (int l = 6; l >= 0; l--) {
            y.above(l + 1, l);
        }
        for (int l = 0; l < 8; l++) {
            hours(y, l, l, 92 + l);
        }
    }

    private static void cannotBe() {
        AshCity x = new AshCity();
        x.ash(0, 0, 5);
        x.ash(1, 5, 9);
        x.above(0, 1);
        hours(x, 0, -1, -1);
        hours(x, 7, -1, -1);
        x.ash(1, 4, 9);
        hours(x, 0, 5, 5);
        hours(x, 1, 4, 4);
        AshCity y = new AshCity();
        y.above(0, 1);
        y.above(1, 2);
        hours(y, 0, 2, 99);
        y.above(2, 0);
        hours(y, 0, -1, -1);
        hours(y, 5, -1, -1);
        y.hollow(0, 5);
        Due.is("nor is there a way", y.way(0), -1);
    }

    private static void heights() {
        AshCity x = new AshCity();
        int[][] wrong = {{-1, 0}, {64, 0}, {0, -1}, {0, 9}};
        for (int[] w : wrong) {
            Due.no("height " + java.util.Arrays.toString(w), x.height(w[0], w[1]));
        }
        Due.yes("height 0", x.height(0, 0));
        Due.yes("height 8", x.height(63, 8));
        Due.yes("height as it is", x.height(63, 8));
    }

    private static void hollows() {
        AshCity x = new AshCity();
        int[][] wrong = {{-1, 0}, {64, 0}, {0, -1}, {0, 8}};
        for (int[] w : wrong) {
            Due.is("hollow " + java.util.Arrays.toString(w), x.hollow(w[0], w[1]), -1);
        }
        for (int i = 0; i < 40; i++) {
            Due.is("hollow " + i, x.hollow(27, 7), i);
        }
        Due.is("a 41st", x.hollow(27, 7), -1);
        Due.is("40", x.count(11), 40);
        Due.is("way -1", x.way(-1), -1);
        Due.is("way 40", x.way(40), -1);
        Due.is("way 39", x.way(39), 3);
    }

    private static void ways() {
        AshCity x = new AshCity();
        x.city(5, 5);
        x.ash(0, 10, 20);
        x.ash(1, 0, 10);
        x.ash(2, 0, 11);
        x.hollow(12, 0);
        for (int c = 0; c < 25; c++) {
            x.height(c, 1);
        }
        Due.is("one is laid by then, all are covered", x.way(0), -2);
        x.height(18, 2);
        Due.is("a cell within is free", x.way(0), -2);
        x.height(24, 2);
        Due.is("and one of the border", x.way(0), 2);
        x.ash(2, 0, 10);
        Due.is("two are laid by then", x.way(0), -2);
        x.height(18, 3);
        x.height(24, 3);
        Due.is("higher", x.way(0), 2);
        x.ash(0, 9, 20);
        Due.is("an hour before, nothing is laid surely", x.way(0), 2);
        x.height(18, 1);
        Due.is("all are free", x.way(0), 2);
        x.height(18, 0);
        Due.is("but what has no height", x.way(0), 2);
        x.hollow(4, 0);
        x.height(4, 0);
        Due.is("on the border its own cell is not asked", x.way(1), 0);
        x.height(12, 0);
        Due.is("nor within", x.way(0), 2);
    }

    /** On each side 0; within, as many as rings around it. */
    private static void border() {
        int[][] sides = {{6, 5}, {4, 4}};
        for (int[] s : sides) {
            AshCity x = new AshCity();
            x.city(s[0], s[1]);
            for (int c = 0; c < s[0] * s[1]; c++) {
                int column = c % s[0];
                int row = c / s[0];
                int due = Math.min(Math.min(column, row), Math.min(s[0] - 1 - column, s[1] - 1 - row));
                Due.is("way out of " + c, x.way(x.hollow(c, 0)), due);
            }
        }
    }

    /** In each of the eight directions the only CELL that is FREE. */
    private static void directions() {
        int[] besides = {0, 1, 2, 4, 6, 8, 9, 10};
        for (int beside : besides) {
            AshCity x = new AshCity();
            x.city(4, 4);
            x.ash(0, 0, 0);
            x.hollow(5, 0);
            for (int c = 0; c < 16; c++) {
                x.height(c, c == beside ? 2 : 1);
            }
            boolean border = beside < 4 || beside % 4 == 0;
            Due.is("way over " + beside, x.way(0), border ? 1 : -2);
        }
    }

    /** Left and right borders are not beside one another. */
    private static void corners() {
        AshCity x = new AshCity();
        x.city(7, 7);
        x.ash(0, 0, 0);
        x.hollow(24, 0);
        for (int c = 0; c < 49; c++) {
            x.height(c, 1);
        }
        int[] path = {16, 17, 18, 26, 33, 40};
        for (int c : path) {
            x.height(c, 2);
        }
        Due.is("no way yet", x.way(0), -2);
        x.height(48, 2);
        Due.is("slantwise over the corner", x.way(0), 5);
        x.height(33, 1);
        Due.is("cut off", x.way(0), -2);
        x.height(32, 2);
        Due.is("round it", x.way(0), 3);
        x.city(4, 4);
        Due.is("the city stays", x.count(1), 7);
    }
}
