/** Edges of ash: terms 5, promises 30 to 35. */
public final class AshEdgesTest {
    public static void main(String[] args) {
        Edges.run(AshEdgesTest.class);
    }

    private static void hours(AshCity x, int l, int earliest, int latest) {
        Due.is("earliest of " + l, x.hour(l, 0), earliest);
        Due.is("latest of " + l, x.hour(l, 1), latest);
    }

    /** A city of 5 by 5 with a HOLLOW in the middle, in LAYER 7, which is laid at HOUR 50 at the earliest; so many others are laid surely by then. */
    private static AshCity middle(int laid) {
        AshCity x = new AshCity();
        x.city(5, 5);
        x.ash(7, 50, 99);
        for (int l = 0; l < laid; l++) {
            x.ash(l, 0, 50);
        }
        x.hollow(12, 7);
        return x;
    }

    private static void heights(AshCity x, int n) {
        for (int c = 0; c < x.count(1) * x.count(2); c++) {
            x.height(c, n);
        }
    }

    @Says(in = 0, words = "LAYERS are each of HOURS from one to another (0 to 99; 0 and 99 at first)")
    static void spans() {
        Edges.range("layer", 0, 7, l -> new AshCity().ash(l, 0, 0));
        Edges.range("from", 0, 99, h -> new AshCity().ash(0, h, 99));
        Edges.range("to", 0, 99, h -> new AshCity().ash(0, 0, h));
        AshCity x = new AshCity();
        for (int l = 0; l < 8; l++) {
            hours(x, l, 0, 99);
        }
        Due.yes("one hour", x.ash(7, 99, 99));
        hours(x, 7, 99, 99);
        Due.yes("anew", x.ash(7, 0, 0));
        hours(x, 7, 0, 0);
        Due.no("the wrong way round", x.ash(7, 1, 0));
        hours(x, 7, 0, 0);
    }

    @Says(in = 0, words = "CUTS (40 at most): in a CUT a LAYER lies above another one")
    static void cuts() {
        AshCity x = new AshCity();
        for (int i = 0; i < 39; i++) {
            Due.yes("cut " + i, x.above(0, 1 + i % 7));
        }
        Due.yes("the 40th", x.above(6, 7));
        Due.no("a 41st", x.above(5, 6));
        hours(x, 0, 2, 99);
        hours(x, 6, 1, 98);
        hours(x, 7, 0, 97);
        hours(x, 5, 0, 98);
    }

    @Says(in = 0, words = "the upper one was laid later (an HOUR at least)")
    static void anHourAtLeast() {
        AshCity x = new AshCity();
        x.above(3, 5);
        hours(x, 3, 1, 99);
        hours(x, 5, 0, 98);
        x.ash(3, 10, 20);
        x.ash(5, 10, 20);
        hours(x, 3, 11, 20);
        hours(x, 5, 10, 19);
        x.ash(3, 10, 11);
        hours(x, 3, 11, 11);
        hours(x, 5, 10, 10);
        x.ash(3, 10, 10);
        hours(x, 3, -1, -1);
    }

    @Says(in = 0, words = "of each LAYER the earliest and the latest HOUR that all spans and CUTS let, together")
    static void together() {
        AshCity down = new AshCity();
        AshCity up = new AshCity();
        for (int l = 0; l < 7; l++) {
            down.above(l, l + 1);
            up.above(7 - l, 6 - l);
        }
        for (int l = 0; l < 8; l++) {
            hours(down, l, 7 - l, 99 - l);
            hours(up, l, l, 92 + l);
        }
        AshCity fromBelow = new AshCity();
        AshCity mixed = new AshCity();
        int[] order = {3, 0, 6, 1, 5, 2, 4};
        for (int i = 0; i < 7; i++) {
            fromBelow.above(6 - i, 7 - i);
            mixed.above(order[i], order[i] + 1);
        }
        for (int l = 0; l < 8; l++) {
            hours(fromBelow, l, 7 - l, 99 - l);
            hours(mixed, l, 7 - l, 99 - l);
        }
        AshCity narrow = new AshCity();
        for (int l = 0; l < 7; l++) {
            narrow.above(l, l + 1);
        }
        narrow.ash(7, 92, 99);
        for (int l = 0; l < 8; l++) {
            hours(narrow, l, 99 - l, 99 - l);
        }
        narrow.ash(7, 93, 99);
        for (int l = 0; l < 8; l++) {
            hours(narrow, l, -1, -1);
        }
    }

    @Says(in = 0, words = "that can't be if some LAYER has none")
    static void cannotBe() {
        AshCity ring = new AshCity();
        ring.above(0, 1);
        ring.above(1, 0);
        for (int l = 0; l < 8; l++) {
            hours(ring, l, -1, -1);
        }
        AshCity great = new AshCity();
        for (int l = 0; l < 7; l++) {
            great.above(l, l + 1);
        }
        hours(great, 0, 7, 99);
        great.above(7, 0);
        hours(great, 0, -1, -1);
        hours(great, 4, -1, -1);
        AshCity spans = new AshCity();
        spans.ash(2, 0, 0);
        spans.above(2, 4);
        hours(spans, 7, -1, -1);
        spans.ash(2, 1, 1);
        hours(spans, 7, 0, 99);
        hours(spans, 4, 0, 0);
    }

    @Says(in = 0, words = "HEIGHTS of CELLS (0 to 8; 8 at first)")
    static void heightsOfCells() {
        Edges.range("height", 0, 8, n -> new AshCity().height(0, n));
        AshCity x = middle(7);
        Due.is("7 laid, 8 at first", x.way(0), 2);
        x.ash(7, 50, 50);
        Due.is("8 laid, 8 at first", x.way(0), -2);
        AshCity y = middle(0);
        heights(y, 0);
        Due.is("none laid, none of height", y.way(0), -2);
        heights(y, 1);
        Due.is("none laid, all of height 1", y.way(0), 2);
    }

    @Says(in = 0, words = "A CELL is FREE at an HOUR if of LAYERS so many as are surely laid by then (the latest HOUR not behind it) are fewer than its HEIGHT")
    static void freeCells() {
        for (int laid = 0; laid < 8; laid++) {
            AshCity x = middle(laid);
            heights(x, laid);
            Due.is(laid + " laid, as high", x.way(0), -2);
            heights(x, laid + 1);
            Due.is(laid + " laid, higher by one", x.way(0), 2);
        }
        AshCity then = middle(0);
        heights(then, 1);
        then.ash(0, 0, 51);
        Due.is("laid an hour behind at the latest", then.way(0), 2);
        then.ash(0, 0, 50);
        Due.is("laid in that hour at the latest", then.way(0), -2);
        then.ash(0, 0, 99);
        then.ash(7, 50, 50);
        Due.is("its own layer counts", then.way(0), -2);
        then.ash(7, 50, 51);
        Due.is("unless it may be laid later", then.way(0), 2);
    }

    @Says(in = 0, words = "HOLLOWS 0 to 39: a CELL and a LAYER: at the earliest HOUR of that LAYER")
    static void hollows() {
        Edges.range("cell", 0, 63, c -> new AshCity().hollow(c, 0) == 0);
        Edges.range("layer", 0, 7, l -> new AshCity().hollow(0, l) == 0);
        AshCity x = new AshCity();
        for (int i = 0; i < 40; i++) {
            Due.is("hollow", x.hollow(63, 7), i);
        }
        AshCity y = middle(0);
        heights(y, 1);
        y.ash(0, 0, 50);
        Due.is("at 50", y.way(0), -2);
        y.ash(7, 49, 99);
        Due.is("at 49", y.way(0), 2);
        y.above(7, 1);
        y.ash(1, 49, 99);
        Due.is("at 50 by a cut", y.way(0), -2);
    }

    @Says(in = 0, words = "over FREE CELLS beside one another (eight lie beside one within; its own CELL is not asked)")
    static void besideOneAnother() {
        int[] around = {6, 7, 8, 11, 13, 16, 17, 18};
        int[] out = {0, 2, 4, 10, 14, 20, 22, 24};
        for (int i = 0; i < 8; i++) {
            AshCity x = middle(1);
            heights(x, 1);
            x.height(around[i], 2);
            Due.is("over " + around[i] + " alone", x.way(0), -2);
            x.height(out[i], 2);
            Due.is("over " + around[i] + " and " + out[i], x.way(0), 2);
            x.height(around[i], 1);
            Due.is("over " + out[i] + " alone", x.way(0), -2);
        }
        AshCity own = middle(1);
        own.height(12, 0);
        Due.is("its own cell is not asked", own.way(0), 2);
        AshCity sides = new AshCity();
        sides.city(4, 4);
        sides.ash(0, 0, 0);
        sides.hollow(5, 0);
        heights(sides, 1);
        sides.height(7, 2);
        Due.is("two cells away", sides.way(0), -2);
        sides.height(6, 2);
        Due.is("over the cell between", sides.way(0), 2);
    }

    @Says(in = 0, words = "to a CELL of the border: the fewest steps (0 if it lies there itself)")
    static void border() {
        for (int c = 0; c < 20; c++) {
            AshCity x = new AshCity();
            x.city(5, 4);
            heights(x, 0);
            x.hollow(c, 0);
            boolean within = c % 5 > 0 && c % 5 < 4 && c / 5 > 0 && c / 5 < 3;
            Due.is("cell " + c + ", nothing free", x.way(0), within ? -2 : 0);
        }
        AshCity x = new AshCity();
        x.city(10, 10);
        x.hollow(44, 0);
        x.hollow(55, 0);
        x.hollow(11, 0);
        x.hollow(88, 0);
        Due.is("four", x.way(0), 4);
        Due.is("four from the other side", x.way(1), 4);
        Due.is("one", x.way(2), 1);
        Due.is("one at the other corner", x.way(3), 1);
    }

    @Says(in = 0, words = "to a CELL of the border: the fewest steps (0 if it lies there itself)")
    static void aroundAWall() {
        AshCity x = new AshCity();
        x.city(10, 10);
        x.ash(0, 0, 0);
        x.hollow(11, 0);
        heights(x, 1);
        int[] winding = {12, 13, 14, 15, 16, 17, 18, 28, 38, 37, 36, 35, 34, 33, 32, 31, 41, 51, 52, 53, 54, 55, 56, 57, 58, 68, 78, 88};
        for (int c : winding) {
            x.height(c, 2);
        }
        Due.is("no way yet", x.way(0), -2);
        x.height(99, 2);
        Due.is("slantwise at the turns", x.way(0), 24);
        x.height(9, 2);
        Due.is("out at the first turn", x.way(0), 8);
    }

    @Says(in = 30, words = "false: no such ones")
    static void noSuchAsh() {
        AshCity x = new AshCity();
        int[][] wrong = {{-1, 0, 0}, {8, 0, 0}, {0, -1, 0}, {0, 0, 100}, {0, 1, 0}, {0, 100, 100}, {0, -1, -1}, {Integer.MIN_VALUE, 0, 0},
            {Integer.MAX_VALUE, 0, 0}, {0, Integer.MIN_VALUE, 0}, {0, 0, Integer.MAX_VALUE}};
        for (int[] w : wrong) {
            Due.no("ash " + java.util.Arrays.toString(w), x.ash(w[0], w[1], w[2]));
        }
        for (int l = 0; l < 8; l++) {
            hours(x, l, 0, 99);
        }
    }

    @Says(in = 31, words = "no such ones")
    static void noSuchCut() {
        Edges.range("upper", 0, 6, l -> new AshCity().above(l, l < 0 ? 0 : 7));
        Edges.range("lower", 0, 6, l -> new AshCity().above(7, l));
        Due.yes("7 above 0", new AshCity().above(7, 0));
        AshCity x = new AshCity();
        Due.no("8 above 0", x.above(8, 0));
        Due.no("0 above 8", x.above(0, 8));
        Due.no("-1 above 0", x.above(-1, 0));
        Due.no("0 above -1", x.above(0, -1));
        Due.is("none is there", x.count(10), 0);
        hours(x, 0, 0, 99);
    }

    @Says(in = 31, words = "one twice")
    static void oneLayerTwice() {
        AshCity x = new AshCity();
        for (int l = 0; l < 8; l++) {
            Due.no(l + " above " + l, x.above(l, l));
        }
        Due.is("none is there", x.count(10), 0);
        hours(x, 0, 0, 99);
    }

    @Says(in = 31, words = "40 are there")
    static void fortyCuts() {
        AshCity x = new AshCity();
        for (int i = 0; i < 40; i++) {
            x.above(1, 2);
        }
        Due.no("a 41st", x.above(0, 1));
        Due.is("40", x.count(10), 40);
        hours(x, 0, 0, 99);
        hours(x, 1, 1, 99);
    }

    @Says(in = 32, words = "NONE: it can't be, no such ones")
    static void noSuchHour() {
        AshCity x = new AshCity();
        x.ash(0, 5, 6);
        Edges.range("layer", 0, 7, l -> x.hour(l, 0) >= 0);
        Edges.range("what", 0, 1, what -> x.hour(0, what) == 5 + what);
        x.above(1, 0);
        x.ash(1, 0, 5);
        for (int l = 0; l < 8; l++) {
            hours(x, l, -1, -1);
        }
        x.ash(1, 0, 6);
        hours(x, 0, 5, 5);
        hours(x, 1, 6, 6);
    }

    @Says(in = 33, words = "false: no such ones")
    static void noSuchHeight() {
        Edges.range("cell", 0, 63, c -> new AshCity().height(c, 0));
        Edges.range("height", 0, 8, n -> new AshCity().height(63, n));
        AshCity x = new AshCity();
        x.city(4, 4);
        Edges.range("cell of a smaller city", 0, 15, c -> x.height(c, 8));
        x.city(10, 10);
        Edges.range("cell of a greater city", 0, 99, c -> x.height(c, 8));
        AshCity y = middle(1);
        heights(y, 1);
        Due.no("height 9", y.height(6, 9));
        Due.no("height -1", y.height(6, -1));
        y.height(0, 2);
        Due.is("a refused height is none", y.way(0), -2);
        Due.yes("2", y.height(6, 2));
        Due.is("then there is a way", y.way(0), 2);
    }

    @Says(in = 34, words = "no such ones")
    static void noSuchHollow() {
        AshCity x = new AshCity();
        x.city(5, 4);
        int[][] wrong = {{-1, 0}, {20, 0}, {0, -1}, {0, 8}, {Integer.MIN_VALUE, 0}, {Integer.MAX_VALUE, 0}, {0, Integer.MIN_VALUE}, {0, Integer.MAX_VALUE}};
        for (int[] w : wrong) {
            Due.none("hollow " + java.util.Arrays.toString(w), x.hollow(w[0], w[1]));
        }
        Due.is("none is there", x.count(11), 0);
        Due.is("the last cell and layer", x.hollow(19, 7), 0);
    }

    @Says(in = 34, words = "40 are there")
    static void fortyHollows() {
        AshCity x = new AshCity();
        for (int i = 0; i < 39; i++) {
            x.hollow(0, 0);
        }
        Due.is("the 40th", x.hollow(27, 0), 39);
        Due.none("a 41st", x.hollow(0, 0));
        Due.is("40", x.count(11), 40);
        Due.is("the way out of the 40th", x.way(39), 3);
        Due.none("of a 41st", x.way(40));
    }

    @Says(in = 35, words = "-2: there is none")
    static void noWay() {
        AshCity x = middle(1);
        heights(x, 1);
        Due.is("none", x.way(0), -2);
        x.height(6, 2);
        Due.is("a free cell, and none of the border", x.way(0), -2);
        x.height(3, 2);
        Due.is("a cell of the border that is not beside it", x.way(0), -2);
        x.height(1, 2);
        Due.is("one beside it", x.way(0), 2);
    }

    @Says(in = 35, words = "NONE: no such one, its HOUR can't be")
    static void wayOfNone() {
        AshCity x = new AshCity();
        Due.none("without hollows", x.way(0));
        x.hollow(0, 0);
        int[] wrong = {-1, 1, 40, Integer.MIN_VALUE, Integer.MAX_VALUE};
        for (int i : wrong) {
            Due.none("way " + i, x.way(i));
        }
        x.hollow(27, 3);
        x.above(5, 6);
        x.ash(5, 7, 7);
        x.ash(6, 7, 9);
        Due.none("hours can't be: on the border", x.way(0));
        Due.none("hours can't be: within", x.way(1));
        x.ash(6, 6, 9);
        Due.is("they can: on the border", x.way(0), 0);
        Due.is("they can: within", x.way(1), 3);
    }
}
