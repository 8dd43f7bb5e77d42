/** Promises 26 to 29 and 38 to 40: wall, draw, copy, stood, work, best, saves. */
public final class WallsTest {
    public static void main(String[] args) {
        walls();
        drawings();
        hundred();
        stood();
        quarrels();
        knownThen();
        works();
        best();
        ties();
        Due.end();
    }

    private static AshCity withWalls(int week, int... worths) {
        AshCity x = new AshCity();
        x.place(0, 0, 0);
        x.now(week);
        for (int w : worths) {
            x.wall(0, w);
        }
        return x;
    }

    private static void walls() {
        AshCity x = new AshCity();
        Due.is("without a place", x.wall(0, 0), -1);
        x.place(0, 0, 0);
        int[][] wrong = {{-1, 0}, {1, 0}, {0, -1}, {0, 10001}};
        for (int[] w : wrong) {
            Due.is("wall " + java.util.Arrays.toString(w), x.wall(w[0], w[1]), -1);
        }
        for (int i = 0; i < 30; i++) {
            Due.is("wall " + i, x.wall(0, i % 2 == 0 ? 0 : 10000), i);
        }
        Due.is("a 31st", x.wall(0, 0), -1);
        Due.is("30", x.count(8), 30);
    }

    private static void drawings() {
        AshCity x = withWalls(10, 5);
        int[][] wrong = {{-1, 0, 0}, {1, 0, 0}, {0, -1, 0}, {0, 11, 0}, {0, 0, -1}, {0, 0, 256}};
        for (int[] w : wrong) {
            Due.is("draw " + java.util.Arrays.toString(w), x.draw(w[0], w[1], w[2]), -1);
        }
        Due.is("copy of none", x.copy(0, 0), -1);
        Due.is("draw", x.draw(0, 10, 255), 0);
        Due.is("copy", x.copy(0, 10), 1);
        Due.is("copy of a copy", x.copy(1, 0), 2);
        int[][] wrongCopies = {{-1, 0}, {3, 0}, {0, -1}, {0, 11}};
        for (int[] w : wrongCopies) {
            Due.is("copy " + java.util.Arrays.toString(w), x.copy(w[0], w[1]), -1);
        }
        Due.is("three", x.count(9), 3);
    }

    private static void hundred() {
        AshCity x = withWalls(10, 5);
        for (int i = 0; i < 100; i++) {
            Due.is("drawing " + i, i % 3 == 1 ? x.copy(i - 1, 3) : x.draw(0, i % 10, 1), i);
        }
        Due.is("a 101st", x.draw(0, 0, 1), -1);
        Due.is("a 101st copy", x.copy(0, 0), -1);
        Due.is("100", x.count(9), 100);
    }

    private static void stood(AshCity x, String what, int w, int f, int t, int... due) {
        for (int i = 0; i < 4; i++) {
            Due.is(what + " " + i, x.stood(w, f, t, i), due[i]);
        }
    }

    private static void stood() {
        AshCity x = withWalls(100, 5, 6);
        stood(x, "no look", 0, 0, 100, -1, -1, -1, -1);
        x.draw(0, 10, 0);
        stood(x, "none has it", 0, 0, 100, -1, -1, -1, -1);
        x.draw(0, 20, 129);
        stood(x, "looks ahead of the first tell nothing", 0, 0, 100, 20, -1, -1, -1);
        stood(x, "another feature", 0, 7, 100, 20, -1, -1, -1);
        stood(x, "another wall", 1, 0, 100, -1, -1, -1, -1);
        x.draw(1, 30, 0);
        x.copy(0, 40);
        x.draw(0, 60, 128);
        x.draw(0, 50, 0);
        stood(x, "fell by 50", 0, 0, 100, 20, 50, -1, -1);
        stood(x, "seen on 60", 0, 7, 100, 60, -1, 5, 4);
        x.copy(1, 99);
        stood(x, "a copy is no look", 0, 0, 100, 20, 50, -1, -1);
        int[][] wrong = {{-1, 0, 0, 0}, {2, 0, 0, 0}, {0, -1, 0, 0}, {0, 8, 100, 0}, {0, 0, -1, 0}, {0, 0, 10000, 0}, {0, 0, 100, -1}, {0, 0, 100, 4}};
        for (int[] q : wrong) {
            Due.is("stood " + java.util.Arrays.toString(q), x.stood(q[0], q[1], q[2], q[3]), -1);
        }
    }

    private static void quarrels() {
        AshCity x = withWalls(100, 5);
        x.draw(0, 50, 1);
        x.draw(0, 40, 0);
        x.draw(0, 30, 1);
        stood(x, "one", 0, 0, 100, 50, -1, 1, 0);
        Due.is("no what 4", x.stood(0, 0, 100, 4), -1);
        Due.is("no what -1", x.stood(0, 0, 100, -1), -1);
        x.draw(0, 35, 0);
        stood(x, "an earlier one that lacks it", 0, 0, 100, 50, -1, 3, 0);
        x.draw(0, 37, 1);
        stood(x, "an earlier one that has it", 0, 0, 100, 50, -1, 3, 4);
        x.draw(0, 60, 0);
        x.draw(0, 70, 0);
        stood(x, "fallen", 0, 0, 100, 50, 60, 3, 4);
        x.draw(0, 5, 0);
        stood(x, "ahead of all", 0, 0, 100, 50, 60, 3, 4);
        AshCity y = withWalls(100, 5);
        y.draw(0, 10, 1);
        y.draw(0, 10, 0);
        stood(y, "of one week by numbers", 0, 0, 100, 10, 10, -1, -1);
        y.draw(0, 10, 1);
        stood(y, "of one week by numbers", 0, 0, 100, 10, -1, 1, 2);
    }

    private static void knownThen() {
        AshCity x = withWalls(100, 5);
        x.draw(0, 10, 1);
        x.now(110);
        x.draw(0, 20, 0);
        x.now(120);
        x.draw(0, 15, 1);
        stood(x, "on 99", 0, 0, 99, -1, -1, -1, -1);
        stood(x, "on 109", 0, 0, 109, 10, -1, -1, -1);
        stood(x, "on 110", 0, 0, 110, 10, 20, -1, -1);
        stood(x, "on 120", 0, 0, 120, 15, 20, -1, -1);
        stood(x, "on 9999", 0, 0, 9999, 15, 20, -1, -1);
    }

    private static void works() {
        AshCity x = withWalls(0, 99, 10000);
        int[][] wrong = {{-1, 1, 1}, {2, 1, 1}, {0, 0, 1}, {0, 10001, 1}, {0, 1, 0}, {0, 1, 101}};
        for (int[] w : wrong) {
            Due.is("work " + java.util.Arrays.toString(w), x.work(w[0], w[1], w[2]), -1);
        }
        Due.is("saves nothing", x.saves(0), 0);
        Due.is("no set 1", x.saves(1), -1);
        Due.is("work", x.work(0, 1, 1), 0);
        Due.is("rounded down", x.saves(1), 0);
        x.work(0, 1, 50);
        Due.is("rounded down", x.saves(2), 49);
        x.work(0, 1, 50);
        Due.is("each rounded down", x.saves(6), 98);
        x.work(0, 1, 100);
        Due.is("not above the worth", x.saves(14), 99);
        x.work(1, 10000, 100);
        Due.is("both walls", x.saves(31), 10099);
        Due.is("saves -1", x.saves(-1), -1);
        Due.is("saves 32", x.saves(32), -1);
        for (int i = 5; i < 9; i++) {
            Due.is("work " + i, x.work(1, 1, 1), i);
        }
        Due.is("a tenth", x.work(1, 1, 1), -1);
        Due.is("nine", x.count(13), 9);
        Due.is("all", x.saves(511), 10099);
        Due.is("no set 512", x.saves(512), -1);
    }

    private static void best() {
        AshCity x = withWalls(0, 1000, 500);
        Due.is("best of none", x.best(0), 0);
        Due.is("best -1", x.best(-1), -1);
        Due.is("best 100001", x.best(100001), -1);
        x.work(0, 10, 60);
        x.work(0, 10, 50);
        x.work(1, 5, 90);
        x.work(1, 15, 100);
        int[][] rows = {{0, 0}, {4, 0}, {5, 4}, {9, 4}, {10, 1}, {14, 1}, {15, 5}, {19, 5}, {20, 5}, {25, 7}, {34, 7}, {35, 11}, {39, 11}, {100000, 11}};
        for (int[] r : rows) {
            Due.is("best " + r[0], x.best(r[0]), r[1]);
        }
    }

    private static void ties() {
        AshCity x = withWalls(0, 100, 0);
        x.work(0, 7, 50);
        x.work(0, 5, 50);
        x.work(0, 5, 50);
        x.work(1, 1, 100);
        Due.is("of least cost, then the least", x.best(9), 2);
        Due.is("two of least cost", x.best(100), 6);
        Due.is("what saves nothing is not taken", x.best(1), 0);
        AshCity y = withWalls(0, 1);
        y.work(0, 1, 100);
        Due.is("what saves 1 is taken", y.best(1), 1);
    }
}
