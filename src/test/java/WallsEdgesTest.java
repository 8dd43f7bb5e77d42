/** Edges of WALLS: terms 4, WORKS of terms 6, promises 26 to 29 and 38 to 40. */
public final class WallsEdgesTest {
    public static void main(String[] args) {
        Edges.run(WallsEdgesTest.class);
    }

    private static AshCity withWalls(int week, int... worths) {
        AshCity x = Edges.withPlaces(1, week);
        for (int w : worths) {
            x.wall(0, w);
        }
        return x;
    }

    private static void stood(AshCity x, String when, int t, int... due) {
        for (int what = 0; what < 4; what++) {
            Due.is(when + ", what " + what, x.stood(0, 0, t, what), due[what]);
        }
    }

    /** A WALL with looks for FEATURE 0, given as WEEK and whether it is seen, told in this order; as KNOWN on 100. */
    private static AshCity looks(int[]... looks) {
        AshCity x = withWalls(100, 0);
        for (int[] l : looks) {
            x.draw(0, l[0], l[1]);
        }
        return x;
    }

    @Says(in = 0, words = "WALLS 0 to 29, each of a PLACE, with a WORTH (0 to 10000)")
    static void walls() {
        Edges.range("worth", 0, 10000, w -> Edges.withPlaces(1, 0).wall(0, w) == 0);
        Edges.range("place", 0, 4, p -> Edges.withPlaces(5, 0).wall(p, 0) == 0);
        AshCity x = Edges.withPlaces(1, 0);
        for (int i = 0; i < 30; i++) {
            Due.is("wall", x.wall(0, 10000), i);
        }
        Due.is("a drawing of the last", x.draw(29, 0, 0), 0);
    }

    @Says(in = 0, words = "DRAWINGS 0 to 99, told at NOW: a WALL, a WEEK (not behind NOW), what is seen of it (8 bits: FEATURES)")
    static void drawings() {
        Edges.range("wall", 0, 1, w -> withWalls(0, 1, 1).draw(w, 0, 0) == 0);
        Edges.range("week", 0, 9, w -> withWalls(9, 1).draw(0, w, 0) == 0);
        Edges.range("week at first", 0, 0, w -> withWalls(0, 1).draw(0, w, 0) == 0);
        Edges.range("week at last", 0, 9999, w -> withWalls(9999, 1).draw(0, w, 0) == 0);
        Edges.range("features", 0, 255, f -> withWalls(0, 1).draw(0, 0, f) == 0);
        AshCity x = withWalls(9, 1);
        for (int i = 0; i < 100; i++) {
            Due.is("drawing", x.draw(0, 3, 129), i);
        }
        Due.none("not known ahead of NOW", x.stood(0, 0, 8, 0));
        Due.is("known from NOW on", x.stood(0, 0, 9, 0), 3);
        Due.is("the last feature", x.stood(0, 7, 9, 0), 3);
        Due.none("one ahead of it", x.stood(0, 6, 9, 0));
    }

    @Says(in = 0, words = "or a copy of an earlier DRAWING (its WALL, and what it shows; no look)")
    static void copies() {
        AshCity x = withWalls(50, 1);
        Due.is("a look that has it", x.draw(0, 10, 1), 0);
        Due.is("a look that lacks it", x.draw(0, 20, 0), 1);
        Due.is("a copy of what has it", x.copy(0, 30), 2);
        Due.is("a copy of what lacks it", x.copy(1, 5), 3);
        Due.is("a copy of a copy", x.copy(2, 40), 4);
        stood(x, "copies are no looks", 50, 10, 20, -1, -1);
        Due.is("they have numbers", x.draw(0, 25, 1), 5);
        stood(x, "a look behind them", 50, 25, -1, 1, 5);
    }

    @Says(in = 0, words = "by looks in order of WEEKS (of one WEEK by numbers)")
    static void orderOfLooks() {
        stood(looks(new int[][] {{20, 0}, {10, 1}}), "by weeks, not numbers", 100, 10, 20, -1, -1);
        stood(looks(new int[][] {{20, 1}, {10, 0}}), "by weeks: ahead of the first", 100, 20, -1, -1, -1);
        stood(looks(new int[][] {{10, 1}, {10, 0}}), "of one week: seen, then not", 100, 10, 10, -1, -1);
        stood(looks(new int[][] {{10, 0}, {10, 1}}), "of one week: not, then seen", 100, 10, -1, -1, -1);
        stood(looks(new int[][] {{10, 1}, {10, 0}, {10, 1}}), "of one week: a quarrel", 100, 10, -1, 1, 2);
        stood(looks(new int[][] {{30, 1}, {20, 0}, {10, 1}}), "all backwards: a quarrel", 100, 30, -1, 1, 0);
    }

    @Says(in = 0, words = "it STOOD up to the last look that has it")
    static void lastLook() {
        stood(looks(new int[][] {{0, 1}}), "on week 0", 100, 0, -1, -1, -1);
        stood(looks(new int[][] {{100, 1}}), "NOW", 100, 100, -1, -1, -1);
        stood(looks(new int[][] {{10, 1}, {20, 1}, {30, 1}}), "the last of three", 100, 30, -1, -1, -1);
    }

    @Says(in = 0, words = "it FELL between that look and the next one that lacks it")
    static void nextLacking() {
        stood(looks(new int[][] {{10, 1}, {20, 0}, {30, 0}}), "the next of two", 100, 10, 20, -1, -1);
        stood(looks(new int[][] {{10, 1}, {30, 0}, {20, 0}}), "the next by weeks", 100, 10, 20, -1, -1);
        stood(looks(new int[][] {{10, 1}, {20, 0}, {30, 1}, {40, 0}}), "behind the last that has it", 100, 30, 40, 1, 2);
    }

    @Says(in = 0, words = "looks ahead of the first that has it tell nothing")
    static void aheadOfTheFirst() {
        stood(looks(new int[][] {{10, 0}, {20, 0}}), "none has it", 100, -1, -1, -1, -1);
        stood(looks(new int[][] {{10, 0}, {20, 1}}), "one ahead", 100, 20, -1, -1, -1);
        stood(looks(new int[][] {{10, 0}, {20, 0}, {30, 1}, {40, 0}}), "two ahead", 100, 30, 40, -1, -1);
    }

    @Says(in = 0, words = "A QUARREL: a look that lacks it ahead of a look that has it, behind one that has it: the first such look (that lacks it), and the first one behind it that has it")
    static void quarrels() {
        stood(looks(new int[][] {{10, 1}, {20, 0}, {30, 1}}), "one", 100, 30, -1, 1, 2);
        stood(looks(new int[][] {{10, 1}, {20, 0}, {30, 0}, {40, 1}}), "two lack it", 100, 40, -1, 1, 3);
        stood(looks(new int[][] {{10, 1}, {20, 0}, {30, 1}, {40, 1}}), "two have it again", 100, 40, -1, 1, 2);
        stood(looks(new int[][] {{10, 1}, {20, 0}, {30, 1}, {40, 0}, {50, 1}}), "the first of two", 100, 50, -1, 1, 2);
        stood(looks(new int[][] {{10, 0}, {20, 1}, {30, 0}}), "none: it fell", 100, 20, 30, -1, -1);
        stood(looks(new int[][] {{10, 0}, {20, 1}, {30, 1}}), "none: what stands ahead tells nothing", 100, 30, -1, -1, -1);
    }

    @Says(in = 0, words = "Of a FEATURE as KNOWN on t")
    static void knownDrawings() {
        AshCity x = withWalls(10, 1, 1);
        x.draw(0, 5, 1);
        x.now(20);
        x.draw(0, 7, 0);
        x.now(30);
        x.draw(0, 9, 1);
        x.draw(1, 6, 0);
        stood(x, "on 9", 9, -1, -1, -1, -1);
        stood(x, "on 10", 10, 5, -1, -1, -1);
        stood(x, "on 19", 19, 5, -1, -1, -1);
        stood(x, "on 20", 20, 5, 7, -1, -1);
        stood(x, "on 30", 30, 9, -1, 1, 2);
        Due.none("of another wall", x.stood(1, 0, 30, 0));
    }

    @Says(in = 0, words = "WORKS (nine at most), each with a COST (1 to 10000), on a WALL, that saves hundredths (1 to 100) of its WORTH")
    static void works() {
        Edges.range("wall", 0, 1, w -> withWalls(0, 1, 1).work(w, 1, 1) == 0);
        Edges.range("cost", 1, 10000, c -> withWalls(0, 1).work(0, c, 1) == 0);
        Edges.range("hundredths", 1, 100, h -> withWalls(0, 1).work(0, 1, h) == 0);
        AshCity x = withWalls(0, 10000, 0);
        for (int i = 0; i < 9; i++) {
            Due.is("work", x.work(i % 2, 10000, i == 0 ? 1 : 100), i);
        }
        Due.is("a hundredth", x.saves(1), 100);
        Due.is("of nothing", x.saves(2), 0);
        Due.is("all", x.saves(4), 10000);
        Due.none("a tenth", x.work(0, 1, 1));
    }

    @Says(in = 0, words = "(rounded down; by several on one WALL together not above its WORTH)")
    static void roundedDown() {
        AshCity x = withWalls(0, 99, 101, 10000);
        x.work(0, 1, 1);
        x.work(0, 1, 99);
        x.work(0, 1, 100);
        x.work(1, 1, 99);
        x.work(1, 1, 1);
        x.work(2, 1, 60);
        x.work(2, 1, 40);
        x.work(2, 1, 1);
        int[][] rows = {{1, 0}, {2, 98}, {3, 98}, {4, 99}, {6, 99}, {7, 99}, {8, 99}, {16, 1}, {24, 100}, {31, 199}, {32, 6000}, {64, 4000}, {96, 10000},
            {224, 10000}, {160, 6100}, {255, 10199}};
        for (int[] r : rows) {
            Due.is("set " + r[0], x.saves(r[0]), r[1]);
        }
    }

    @Says(in = 0, words = "of all sets whose COSTS together are not above it that by which most is saved")
    static void mostSaved() {
        AshCity x = withWalls(0, 100, 100);
        x.work(0, 10, 90);
        x.work(1, 7, 50);
        x.work(1, 4, 45);
        AshCity little = withWalls(0, 1);
        little.work(0, 10000, 100);
        Due.is("for 1 all is given", little.best(10000), 1);
        int[][] rows = {{0, 0}, {3, 0}, {4, 4}, {6, 4}, {7, 2}, {9, 2}, {10, 1}, {11, 6}, {13, 6}, {14, 5}, {16, 5}, {17, 3}, {20, 3}, {21, 7}, {100000, 7}};
        for (int[] r : rows) {
            Due.is("with " + r[0], x.best(r[0]), r[1]);
        }
    }

    @Says(in = 0, words = "of like ones of least COST; of like ones the least, as bits")
    static void leastCost() {
        AshCity x = withWalls(0, 100, 0);
        x.work(0, 9, 50);
        x.work(0, 5, 50);
        x.work(0, 5, 50);
        x.work(1, 1, 100);
        Due.is("one of least cost, the least as bits", x.best(9), 2);
        Due.is("two of least cost", x.best(10000), 6);
        Due.is("what saves nothing is not taken", x.best(1), 0);
        AshCity y = withWalls(0, 10);
        y.work(0, 3, 100);
        y.work(0, 1, 50);
        y.work(0, 2, 50);
        Due.is("1 alone or 2 and 4 for the same cost", y.best(3), 1);
        Due.is("with more money the same", y.best(100), 1);
    }

    @Says(in = 26, words = "no such ones")
    static void noSuchWall() {
        Due.none("without places", new AshCity().wall(0, 0));
        AshCity x = Edges.withPlaces(1, 0);
        int[][] wrong = {{-1, 0}, {1, 0}, {30, 0}, {0, -1}, {0, 10001}, {Integer.MIN_VALUE, 0}, {Integer.MAX_VALUE, 0}, {0, Integer.MIN_VALUE},
            {0, Integer.MAX_VALUE}};
        for (int[] w : wrong) {
            Due.none("wall " + java.util.Arrays.toString(w), x.wall(w[0], w[1]));
        }
        Due.is("none is there", x.count(8), 0);
        Due.none("none to draw", x.draw(0, 0, 0));
    }

    @Says(in = 26, words = "30 are there")
    static void thirtyWalls() {
        AshCity x = Edges.withPlaces(2, 0);
        for (int i = 0; i < 29; i++) {
            x.wall(0, 1);
        }
        Due.is("the 30th", x.wall(1, 1), 29);
        Due.none("a 31st", x.wall(1, 1));
        Due.is("30", x.count(8), 30);
        Due.none("no drawing of it", x.draw(30, 0, 0));
        Due.none("no work on it", x.work(30, 1, 1));
    }

    @Says(in = 27, words = "no such ones")
    static void noSuchDrawing() {
        Due.none("without walls", new AshCity().draw(0, 0, 0));
        AshCity x = withWalls(5, 1);
        int[][] wrong = {{-1, 0, 1}, {1, 0, 1}, {0, -1, 1}, {0, 6, 1}, {0, 0, -1}, {0, 0, 256}, {Integer.MIN_VALUE, 0, 1}, {Integer.MAX_VALUE, 0, 1},
            {0, Integer.MIN_VALUE, 1}, {0, Integer.MAX_VALUE, 1}, {0, 0, Integer.MIN_VALUE}, {0, 0, Integer.MAX_VALUE}};
        for (int[] w : wrong) {
            Due.none("draw " + java.util.Arrays.toString(w), x.draw(w[0], w[1], w[2]));
        }
        Due.is("none is there", x.count(9), 0);
        Due.none("nothing was seen", x.stood(0, 0, 5, 0));
    }

    @Says(in = 27, words = "100 are there")
    static void hundredDrawings() {
        AshCity x = withWalls(5, 1);
        for (int i = 0; i < 99; i++) {
            x.draw(0, 0, 1);
        }
        Due.is("the 100th", x.draw(0, 1, 1), 99);
        Due.none("a 101st", x.draw(0, 5, 1));
        Due.is("100", x.count(9), 100);
        Due.is("it tells nothing", x.stood(0, 0, 5, 0), 1);
    }

    @Says(in = 28, words = "no such ones")
    static void noSuchCopy() {
        AshCity x = withWalls(5, 1);
        Due.none("without drawings", x.copy(0, 0));
        x.draw(0, 5, 1);
        int[][] wrong = {{-1, 5}, {1, 5}, {0, -1}, {0, 6}, {Integer.MIN_VALUE, 5}, {Integer.MAX_VALUE, 5}, {0, Integer.MIN_VALUE}, {0, Integer.MAX_VALUE}};
        for (int[] w : wrong) {
            Due.none("copy " + java.util.Arrays.toString(w), x.copy(w[0], w[1]));
        }
        Due.is("one is there", x.count(9), 1);
        Due.is("a copy NOW", x.copy(0, 5), 1);
        Edges.range("week", 0, 9999, w -> {
            AshCity y = withWalls(9999, 1);
            y.draw(0, 0, 1);
            return y.copy(0, w) == 1;
        });
    }

    @Says(in = 28, words = "100 are there")
    static void hundredCopies() {
        AshCity x = withWalls(5, 1);
        x.draw(0, 0, 1);
        for (int i = 1; i < 99; i++) {
            x.copy(i - 1, 5);
        }
        Due.is("the 100th", x.copy(98, 5), 99);
        Due.none("a 101st copy", x.copy(0, 5));
        Due.none("nor a look", x.draw(0, 5, 1));
        Due.is("100", x.count(9), 100);
    }

    @Says(in = 29, words = "(NONE: no look behind does)")
    static void notFallen() {
        Due.none("no look behind", looks(new int[][] {{10, 1}}).stood(0, 0, 100, 1));
        Due.none("looks behind that have it", looks(new int[][] {{10, 1}, {20, 1}}).stood(0, 0, 100, 1));
        Due.none("one ahead that lacks it", looks(new int[][] {{10, 1}, {5, 0}}).stood(0, 0, 100, 1));
        Due.is("one behind that lacks it", looks(new int[][] {{10, 1}, {100, 0}}).stood(0, 0, 100, 1), 100);
    }

    @Says(in = 29, words = "2, 3 the DRAWINGS of its QUARREL (NONE: none)")
    static void noQuarrel() {
        AshCity x = looks(new int[][] {{10, 0}, {20, 1}, {30, 0}});
        Due.none("no quarrel: the look that lacks it", x.stood(0, 0, 100, 2));
        Due.none("no quarrel: the look that has it", x.stood(0, 0, 100, 3));
        x.draw(0, 40, 1);
        Due.is("a quarrel: the look that lacks it", x.stood(0, 0, 100, 2), 2);
        Due.is("a quarrel: the look that has it", x.stood(0, 0, 100, 3), 3);
    }

    @Says(in = 29, words = "NONE: no look has it, no such ones")
    static void stoodNone() {
        AshCity x = withWalls(100, 1);
        stood(x, "no look at all", 100, -1, -1, -1, -1);
        x.draw(0, 10, 2);
        stood(x, "no look has it", 100, -1, -1, -1, -1);
        x.draw(0, 20, 255);
        Edges.range("wall", 0, 0, w -> x.stood(w, 0, 100, 0) == 20);
        Edges.range("feature", 0, 7, f -> x.stood(0, f, 100, 0) == 20);
        Edges.range("t", 100, 9999, t -> x.stood(0, 0, t, 0) == 20);
        AshCity y = looks(new int[][] {{10, 1}, {20, 0}, {30, 1}, {40, 0}});
        Edges.range("what", 0, 3, what -> y.stood(0, 0, 100, what) != -1);
        Due.none("week -1", x.stood(0, 0, -1, 0));
        Due.none("without walls", new AshCity().stood(0, 0, 0, 0));
    }

    @Says(in = 38, words = "no such ones")
    static void noSuchWork() {
        Due.none("without walls", new AshCity().work(0, 1, 1));
        AshCity x = withWalls(0, 100);
        int[][] wrong = {{-1, 1, 1}, {1, 1, 1}, {0, 0, 1}, {0, -1, 1}, {0, 10001, 1}, {0, 1, 0}, {0, 1, -1}, {0, 1, 101}, {Integer.MIN_VALUE, 1, 1},
            {0, Integer.MAX_VALUE, 1}, {0, 1, Integer.MIN_VALUE}};
        for (int[] w : wrong) {
            Due.none("work " + java.util.Arrays.toString(w), x.work(w[0], w[1], w[2]));
        }
        Due.is("none is there", x.count(13), 0);
        Due.is("nothing to do", x.best(100000), 0);
    }

    @Says(in = 38, words = "9 are there")
    static void nineWorks() {
        AshCity x = withWalls(0, 1000);
        for (int i = 0; i < 8; i++) {
            x.work(0, 1, 1);
        }
        Due.is("the ninth", x.work(0, 1, 1), 8);
        Due.none("a tenth", x.work(0, 1, 100));
        Due.is("nine", x.count(13), 9);
        Due.is("all nine", x.saves(511), 90);
        Due.is("the best", x.best(9), 511);
    }

    @Says(in = 39, words = "THE BEST with so much money (0 to 100000), as bits; NONE: no such money")
    static void money() {
        Edges.range("money without works", 0, 100000, m -> new AshCity().best(m) == 0);
        AshCity x = withWalls(0, 10000);
        for (int i = 0; i < 9; i++) {
            x.work(0, 10000, 11);
        }
        Due.is("with nothing", x.best(0), 0);
        Due.is("not enough for one", x.best(9999), 0);
        Due.is("just enough for one", x.best(10000), 1);
        Due.is("not enough for nine", x.best(89999), 255);
        Due.is("just enough for nine", x.best(90000), 511);
        Due.is("the most money", x.best(100000), 511);
        Due.none("more than that", x.best(100001));
        Due.none("less than nothing", x.best(-1));
    }

    @Says(in = 40, words = "NONE: no such set")
    static void noSuchSet() {
        AshCity x = withWalls(0, 100);
        Due.is("the empty set", x.saves(0), 0);
        Due.none("without works", x.saves(1));
        for (int i = 0; i < 9; i++) {
            x.work(0, 1, 1);
            Due.is("all of " + (i + 1), x.saves((2 << i) - 1), i + 1);
            Due.none("one that is not there", x.saves(2 << i));
            Due.none("all and one that is not there", x.saves((4 << i) - 1));
        }
        int[] wrong = {-1, -512, 512, Integer.MIN_VALUE, Integer.MAX_VALUE};
        for (int set : wrong) {
            Due.none("set " + set, x.saves(set));
        }
    }
}
