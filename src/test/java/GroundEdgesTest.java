/** Edges of the ground: terms up to THE GROUND, promises 1 to 9. */
public final class GroundEdgesTest {
    private static final int OPEN = 0;
    private static final int TUNNEL = 1;
    private static final int REFILL = 2;

    public static void main(String[] args) {
        Edges.run(GroundEdgesTest.class);
    }

    /** A DIG over all cells by HAND 0. */
    private static int digAll(AshCity x, int kind, int top, int bottom, int from, int to) {
        return x.dig(0, kind, 0, x.count(1) * x.count(2) - 1, top, bottom, from, to);
    }

    @Says(in = 0, words = "WEEKS 0 to 9999")
    static void weeks() {
        Edges.range("now", 0, 9999, w -> new AshCity().now(w));
        Edges.range("week of ground", 0, 9999, w -> new AshCity().ground(0, 0, w, 0) == 0);
        Edges.range("t of ground", 0, 9999, t -> new AshCity().ground(0, 0, 0, t) == 0);
        AshCity x = new AshCity();
        digAll(x, OPEN, 0, 0, 0, 0);
        Edges.range("week of first", 0, 9999, w -> x.first(0, 0, w, 0) == 0);
        Edges.range("t of first", 0, 9999, t -> x.first(0, 0, 0, t) == 0);
    }

    @Says(in = 0, words = "NOW is one of them (0 at first), never back")
    static void nowIsNeverBack() {
        AshCity x = new AshCity();
        Due.is("NOW at first", x.count(0), 0);
        Due.yes("on to 5", x.now(5));
        Due.no("back to 4", x.now(4));
        Due.no("back to 0", x.now(0));
        Due.is("NOW", x.count(0), 5);
        Due.yes("5 once more is not back", x.now(5));
        Due.yes("on by one", x.now(6));
        Due.is("NOW", x.count(0), 6);
    }

    @Says(in = 0, words = "W columns and H rows (4 to 10 each; 8 and 8 at first)")
    static void sides() {
        Edges.range("W", 4, 10, w -> new AshCity().city(w, 8));
        Edges.range("H", 4, 10, h -> new AshCity().city(8, h));
        Due.no("both too small", new AshCity().city(3, 3));
        Due.no("both too large", new AshCity().city(11, 11));
        AshCity x = new AshCity();
        Due.is("W at first", x.count(1), 8);
        Due.is("H at first", x.count(2), 8);
        Due.yes("the least city", x.city(4, 4));
        Due.is("its last cell", x.ground(15, 0, 0, 0), 0);
        Due.none("no cell behind it", x.ground(16, 0, 0, 0));
        Due.yes("the greatest city", x.city(10, 10));
        Due.is("its last cell", x.ground(99, 0, 0, 0), 0);
        Due.none("no cell behind it", x.ground(100, 0, 0, 0));
    }

    @Says(in = 0, words = "by numbers: W times the row and the column")
    static void cellNumbers() {
        AshCity x = new AshCity();
        x.city(10, 4);
        Due.none("a rectangle does not go on from the end of a row", x.place(0, 9, 10));
        Due.is("two rows at the right side", x.place(0, 8, 19), 0);
        int[] within = {8, 9, 18, 19};
        for (int c : within) {
            Due.is("cell " + c, x.placeOf(c), 0);
        }
        int[] without = {7, 10, 17, 20, 28, 29};
        for (int c : without) {
            Due.none("cell " + c, x.placeOf(c));
        }
        AshCity y = new AshCity();
        y.city(4, 10);
        Due.is("a column of ten rows", y.place(0, 3, 39), 0);
        Due.is("its last cell", y.placeOf(39), 0);
        Due.none("beside its last cell", y.placeOf(38));
        Due.none("no cell 40", y.placeOf(40));
    }

    @Says(in = 0, words = "LAYERS 0 to 7, 0 the topmost")
    static void layers() {
        AshCity x = new AshCity();
        Edges.range("layer of ground", 0, 7, l -> x.ground(0, l, 0, 0) == 0);
        digAll(x, OPEN, 0, 7, 0, 0);
        Edges.range("layer of first", 0, 7, l -> x.first(0, l, 0, 0) == 0);
        Edges.range("top of a dig", 0, 7, l -> digAll(new AshCity(), TUNNEL, l, 7, 0, 0) == 0);
        Edges.range("bottom of a dig", 0, 7, l -> digAll(new AshCity(), TUNNEL, 0, l, 0, 0) == 0);
        Edges.range("bottom of an open one", 0, 7, l -> digAll(new AshCity(), OPEN, 0, l, 0, 0) == 0);
        Edges.range("both of a refill", 0, 7, l -> digAll(new AshCity(), REFILL, l, l, 0, 0) == 0);
    }

    @Says(in = 0, words = "PLACES 0 to 29: a KIND (0 to 2)")
    static void placeNumbersAndKinds() {
        Edges.range("kind of a place", 0, 2, k -> new AshCity().place(k, 0, 0) == 0);
        AshCity x = new AshCity();
        for (int i = 0; i < 30; i++) {
            Due.is("place", x.place(2, 63 - i, 63 - i), i);
        }
        Due.is("the last one's cell", x.placeOf(34), 29);
    }

    @Says(in = 0, words = "a rectangle of CELLS (told by its upper left and its lower right one)")
    static void rectangles() {
        int[][] wrong = {{9, 0}, {1, 0}, {8, 0}, {1, 8}, {8, 1}, {63, 0}, {7, 8}, {-1, 0}, {0, -1}, {0, 64}, {64, 64}, {-9, 9},
            {Integer.MIN_VALUE, 0}, {0, Integer.MAX_VALUE}, {Integer.MAX_VALUE, Integer.MAX_VALUE}};
        for (int[] w : wrong) {
            Due.none("place from " + w[0] + " to " + w[1], new AshCity().place(0, w[0], w[1]));
            Due.none("dig from " + w[0] + " to " + w[1], new AshCity().dig(0, 0, w[0], w[1], 0, 0, 0, 0));
        }
        int[][] right = {{0, 0}, {63, 63}, {0, 7}, {0, 56}, {7, 63}, {56, 63}, {0, 63}};
        for (int[] r : right) {
            Due.is("place from " + r[0] + " to " + r[1], new AshCity().place(0, r[0], r[1]), 0);
            Due.is("dig from " + r[0] + " to " + r[1], new AshCity().dig(0, 0, r[0], r[1], 0, 0, 0, 0), 0);
        }
    }

    @Says(in = 0, words = "none of which is another PLACE's")
    static void placesApart() {
        AshCity x = new AshCity();
        Due.is("in the middle", x.place(0, 27, 36), 0);
        int[][] touching = {{27, 27}, {36, 36}, {28, 28}, {35, 35}, {18, 27}, {36, 45}, {21, 28}, {35, 42}, {0, 63}, {24, 31}, {3, 59}, {27, 36}};
        for (int[] t : touching) {
            Due.none("place from " + t[0] + " to " + t[1], x.place(0, t[0], t[1]));
        }
        int[][] apart = {{18, 18}, {21, 21}, {42, 42}, {45, 45}, {19, 20}, {43, 44}, {26, 34}, {29, 37}};
        for (int i = 0; i < apart.length; i++) {
            Due.is("place from " + apart[i][0] + " to " + apart[i][1], x.place(0, apart[i][0], apart[i][1]), i + 1);
        }
    }

    @Says(in = 0, words = "HANDS are 0 to 7")
    static void hands() {
        Edges.range("hand of a dig", 0, 7, h -> new AshCity().dig(h, 0, 0, 0, 0, 0, 0, 0) == 0);
    }

    @Says(in = 0, words = "DIGS 0 to 99, told at NOW")
    static void digsAreToldAtNow() {
        AshCity x = Edges.at(9);
        for (int i = 0; i < 100; i++) {
            Due.is("dig", x.dig(0, OPEN, 0, 0, 0, 0, 3, 3), i);
        }
        Due.is("not known ahead of NOW", x.ground(0, 0, 9999, 8), 0);
        Due.is("known from NOW on", x.ground(0, 0, 9999, 9), 2);
    }

    @Says(in = 0, words = "a KIND (0 OPEN, 1 TUNNEL, 2 REFILL)")
    static void kindsOfDigs() {
        Edges.range("kind of a dig", 0, 2, k -> new AshCity().dig(0, k, 0, 0, 0, 0, 0, 0) == 0);
    }

    @Says(in = 0, words = "LAYERS from one to another (both too; of OPEN from 0 on)")
    static void layersOfDigs() {
        AshCity x = new AshCity();
        Due.is("tunnel", x.dig(0, TUNNEL, 0, 0, 2, 4, 0, 0), 0);
        int[] due = {0, 0, 1, 1, 1, 0, 0, 0};
        for (int l = 0; l < 8; l++) {
            Due.is("layer " + l, x.ground(0, l, 0, 0), due[l]);
        }
        Due.none("upside down", x.dig(0, TUNNEL, 0, 0, 4, 3, 0, 0));
        Due.is("of one layer", x.dig(0, TUNNEL, 0, 0, 7, 7, 0, 0), 1);
        Due.none("open not from 0 on", x.dig(0, OPEN, 0, 0, 1, 7, 0, 0));
        Due.none("open of the lowest alone", x.dig(0, OPEN, 0, 0, 7, 7, 0, 0));
        Due.is("open of the topmost alone", x.dig(0, OPEN, 0, 0, 0, 0, 0, 0), 2);
        Due.is("a refill not from 0 on", x.dig(0, REFILL, 0, 0, 1, 7, 0, 0), 3);
    }

    @Says(in = 0, words = "WEEKS from one to another (both too, not behind NOW)")
    static void weeksOfDigs() {
        Edges.range("last week", 0, 9, w -> digAll(Edges.at(9), OPEN, 0, 0, 0, w) == 0);
        Edges.range("first week", 0, 9, w -> digAll(Edges.at(9), OPEN, 0, 0, w, 9) == 0);
        Edges.range("both", 0, 0, w -> digAll(new AshCity(), OPEN, 0, 0, w, w) == 0);
        Due.none("the wrong way round", digAll(Edges.at(9), OPEN, 0, 0, 6, 5));
        Due.is("of one week", digAll(Edges.at(9), OPEN, 0, 0, 5, 5), 0);
        Due.is("of all weeks", digAll(Edges.at(9999), OPEN, 0, 0, 0, 9999), 0);
        AshCity x = Edges.withPlaces(1, 9);
        x.dig(0, OPEN, 0, 0, 0, 0, 5, 7);
        int[] due = {0, 1, 1, 1, 0};
        for (int i = 0; i < due.length; i++) {
            x.find(0, 4 + i, 4 + i, 0, 0, 0, 0, 0);
            Due.is("week " + (4 + i), x.may(i, 9), due[i]);
        }
    }

    @Says(in = 0, words = "KNOWN on a WEEK t are DIGS told by t and not STRUCK by t")
    static void known() {
        AshCity x = Edges.at(5);
        digAll(x, OPEN, 0, 0, 1, 1);
        x.now(8);
        x.strike(0);
        int[] due = {0, 2, 2, 2, 0, 0};
        for (int t = 4; t < 10; t++) {
            Due.is("on " + t, x.ground(0, 0, 1, t), due[t - 4]);
            Due.is("first on " + t, x.first(0, 0, 1, t), due[t - 4] == 2 ? 0 : -1);
        }
        AshCity y = new AshCity();
        digAll(y, OPEN, 0, 0, 0, 0);
        y.strike(0);
        Due.is("told and struck in one week", y.ground(0, 0, 0, 0), 0);
        Due.is("nor known later", y.ground(0, 0, 9999, 9999), 0);
    }

    @Says(in = 0, words = "KEPT at first")
    static void keptAtFirst() {
        AshCity x = new AshCity();
        for (int c = 0; c < 64; c += 7) {
            for (int l = 0; l < 8; l++) {
                Due.is("ground of " + c + " " + l, x.ground(c, l, 0, 0), 0);
                Due.none("first of " + c + " " + l, x.first(c, l, 9999, 9999));
            }
        }
    }

    @Says(in = 0, words = "by DIGS KNOWN on t whose first WEEK is not behind w")
    static void firstWeek() {
        AshCity x = Edges.at(20);
        digAll(x, OPEN, 0, 0, 5, 7);
        int[][] rows = {{0, 0}, {4, 0}, {5, 2}, {6, 2}, {7, 2}, {8, 2}, {9999, 2}};
        for (int[] r : rows) {
            Due.is("week " + r[0], x.ground(0, 0, r[0], 20), r[1]);
            Due.is("first by week " + r[0], x.first(0, 0, r[0], 20), r[1] == 0 ? -1 : 0);
        }
    }

    @Says(in = 0, words = "by first WEEKS, then numbers")
    static void orderOfDigs() {
        AshCity x = Edges.at(9);
        digAll(x, REFILL, 0, 0, 3, 3);
        digAll(x, OPEN, 0, 0, 3, 3);
        Due.is("of one week by numbers: refill, then open", x.ground(0, 0, 3, 9), 2);
        AshCity y = Edges.at(9);
        digAll(y, OPEN, 0, 0, 3, 3);
        digAll(y, REFILL, 0, 0, 3, 3);
        Due.is("of one week by numbers: open, then refill", y.ground(0, 0, 3, 9), 3);
        AshCity z = Edges.at(9);
        digAll(z, REFILL, 0, 0, 4, 4);
        digAll(z, OPEN, 0, 0, 3, 9);
        Due.is("by first weeks, not numbers nor last weeks", z.ground(0, 0, 9, 9), 3);
        Due.is("first", z.first(0, 0, 9, 9), 1);
    }

    @Says(in = 0, words = "TUNNEL makes what is KEPT TUNNELLED")
    static void tunnelOnlyKept() {
        Due.is("kept", groundAfter(TUNNEL), 1);
        Due.is("tunnelled", groundAfter(TUNNEL, TUNNEL), 1);
        Due.is("opened", groundAfter(OPEN, TUNNEL), 2);
        Due.is("refilled", groundAfter(OPEN, REFILL, TUNNEL), 3);
    }

    @Says(in = 0, words = "OPEN makes all OPENED")
    static void openMakesAllOpened() {
        Due.is("kept", groundAfter(OPEN), 2);
        Due.is("tunnelled", groundAfter(TUNNEL, OPEN), 2);
        Due.is("opened", groundAfter(OPEN, OPEN), 2);
        Due.is("refilled", groundAfter(TUNNEL, REFILL, OPEN), 2);
    }

    @Says(in = 0, words = "REFILL makes what is TUNNELLED or OPENED REFILLED")
    static void refillNotKept() {
        Due.is("kept", groundAfter(REFILL), 0);
        Due.is("tunnelled", groundAfter(TUNNEL, REFILL), 3);
        Due.is("opened", groundAfter(OPEN, REFILL), 3);
        Due.is("refilled", groundAfter(OPEN, REFILL, REFILL), 3);
    }

    private static int groundAfter(int... kinds) {
        AshCity x = Edges.at(9);
        for (int i = 0; i < kinds.length; i++) {
            x.dig(0, kinds[i], 0, 0, 0, 0, i, i);
        }
        return x.ground(0, 0, 9, 9);
    }

    @Says(in = 0, words = "the first of these DIGS by which it was not KEPT any more")
    static void whoDugFirst() {
        AshCity x = Edges.at(9);
        digAll(x, REFILL, 0, 7, 0, 0);
        Due.none("a refill of what is kept", x.first(0, 0, 9, 9));
        digAll(x, OPEN, 0, 3, 4, 4);
        digAll(x, TUNNEL, 3, 4, 2, 2);
        Due.is("opened alone", x.first(0, 2, 9, 9), 1);
        Due.is("tunnelled, then opened", x.first(0, 3, 9, 9), 2);
        Due.is("tunnelled alone", x.first(0, 4, 9, 9), 2);
        Due.none("below", x.first(0, 5, 9, 9));
        x.now(10);
        x.strike(2);
        Due.is("as known ahead of the strike", x.first(0, 3, 9, 9), 2);
        Due.is("with the tunnel struck", x.first(0, 3, 9, 10), 1);
        Due.none("with the tunnel struck, below", x.first(0, 4, 9, 10));
    }

    @Says(in = 1, words = "8 by 8 CELLS, WEEK 0; no PLACES, DIGS, FINDS.")
    static void newObject() {
        AshCity x = new AshCity();
        Due.is("W", x.count(1), 8);
        Due.is("H", x.count(2), 8);
        Due.is("week", x.count(0), 0);
        for (int i = 3; i < 16; i++) {
            Due.is("count " + i, x.count(i), 0);
        }
        Due.none("no place", x.placeOf(0));
        Due.no("no dig", x.strike(0));
        Due.none("no find", x.may(0, 0));
        Due.none("no wall", x.draw(0, 0, 0));
        Due.none("no drawing", x.copy(0, 0));
        Due.no("no thing", x.gone(0, true));
        Due.none("no hollow", x.way(0));
        Due.none("no rules", x.count(20));
        Due.none("nothing was joined", x.joined(0));
    }

    @Says(in = 2, words = "no such ones")
    static void noSuchCity() {
        AshCity x = new AshCity();
        int[][] wrong = {{3, 4}, {4, 3}, {11, 4}, {4, 11}, {0, 0}, {-4, 4}, {4, -4}, {Integer.MIN_VALUE, 4}, {4, Integer.MAX_VALUE}};
        for (int[] w : wrong) {
            Due.no("city " + w[0] + " by " + w[1], x.city(w[0], w[1]));
        }
        Due.is("W stays", x.count(1), 8);
        Due.is("H stays", x.count(2), 8);
    }

    @Says(in = 2, words = "PLACES, DIGS or HOLLOWS are there")
    static void cityIsSettled() {
        AshCity places = new AshCity();
        places.place(0, 0, 0);
        Due.no("with a place", places.city(5, 5));
        AshCity digs = new AshCity();
        digs.dig(0, 0, 0, 0, 0, 0, 0, 0);
        digs.strike(0);
        Due.no("with a dig, struck or not", digs.city(5, 5));
        AshCity hollows = new AshCity();
        hollows.hollow(0, 0);
        Due.no("with a hollow", hollows.city(5, 5));
        AshCity others = Edges.at(3);
        others.find(0, 0, 0, 0, 0, 0, 0, 0);
        others.thing(0, 0, 0);
        others.above(0, 1);
        others.ash(0, 5, 6);
        Due.rules(others, 0, 9, "n0");
        others.height(0, 3);
        Due.yes("with anything else", others.city(5, 5));
        Due.is("W", others.count(1), 5);
        AshCity refused = new AshCity();
        refused.place(0, 0, 64);
        refused.dig(0, 0, 0, 64, 0, 0, 0, 0);
        refused.hollow(64, 0);
        Due.yes("with none but refused ones", refused.city(4, 10));
    }

    @Says(in = 2, words = "(HEIGHTS are 8 then.)")
    static void heightsOfANewCity() {
        AshCity x = new AshCity();
        x.ash(0, 0, 0);
        for (int c = 0; c < 64; c++) {
            x.height(c, 0);
        }
        Due.no("a refused one", x.city(8, 11));
        Due.yes("the same sides once more", x.city(8, 8));
        x.hollow(27, 0);
        Due.is("all are free", x.way(0), 3);
        AshCity y = new AshCity();
        y.ash(0, 0, 0);
        for (int c = 0; c < 64; c++) {
            y.height(c, 0);
        }
        y.city(8, 11);
        y.hollow(27, 0);
        Due.is("a refused one leaves heights", y.way(0), -2);
    }

    @Says(in = 3, words = "no such one")
    static void noSuchNow() {
        int[] wrong = {-1, 10000, Integer.MIN_VALUE, Integer.MAX_VALUE};
        for (int w : wrong) {
            AshCity x = new AshCity();
            Due.no("now " + w, x.now(w));
            Due.is("NOW stays", x.count(0), 0);
        }
    }

    @Says(in = 3, words = "it is past")
    static void pastNow() {
        AshCity x = Edges.at(9999);
        Due.no("9998", x.now(9998));
        Due.yes("9999", x.now(9999));
        Due.no("0", x.now(0));
        Due.is("NOW stays", x.count(0), 9999);
    }

    @Says(in = 4, words = "no such ones")
    static void noSuchPlace() {
        int[][] wrong = {{-1, 0, 0}, {3, 0, 0}, {0, -1, 0}, {0, 64, 64}, {0, 0, 64}, {0, 1, 0}, {0, 8, 0}, {0, 1, 8}, {Integer.MIN_VALUE, 0, 0},
            {Integer.MAX_VALUE, 0, 0}};
        AshCity x = new AshCity();
        for (int[] w : wrong) {
            Due.none("place " + w[0] + " " + w[1] + " " + w[2], x.place(w[0], w[1], w[2]));
        }
        Due.is("none is there", x.count(3), 0);
        Due.none("none has cell 0", x.placeOf(0));
    }

    @Says(in = 4, words = "a CELL is another PLACE's")
    static void cellOfAnotherPlace() {
        AshCity x = new AshCity();
        x.place(0, 0, 0);
        Due.none("all the city", x.place(0, 0, 63));
        Due.is("one is there", x.count(3), 1);
        Due.none("cell 63 is free still", x.placeOf(63));
        Due.is("all but a column", x.place(0, 1, 63), 1);
    }

    @Says(in = 4, words = "30 are there")
    static void thirtyPlaces() {
        AshCity x = new AshCity();
        for (int i = 0; i < 29; i++) {
            x.place(0, i, i);
        }
        Due.is("the 30th", x.place(0, 29, 29), 29);
        Due.none("a 31st", x.place(0, 30, 30));
        Due.none("its cell is nobody's", x.placeOf(30));
        Due.is("30", x.count(3), 30);
    }

    @Says(in = 5, words = "NONE: none, no such CELL")
    static void placeOfNoCell() {
        AshCity x = new AshCity();
        x.city(4, 4);
        x.place(0, 0, 14);
        Due.is("the first cell", x.placeOf(0), 0);
        Due.is("its last cell", x.placeOf(14), 0);
        Due.none("a cell of none", x.placeOf(15));
        int[] wrong = {-1, 16, 63, Integer.MIN_VALUE, Integer.MAX_VALUE};
        for (int c : wrong) {
            Due.none("cell " + c, x.placeOf(c));
        }
    }

    @Says(in = 6, words = "no such ones")
    static void noSuchDig() {
        int[][] wrong = {{-1, 1, 0, 0, 0, 0, 0, 0}, {8, 1, 0, 0, 0, 0, 0, 0}, {0, -1, 0, 0, 0, 0, 0, 0}, {0, 3, 0, 0, 0, 0, 0, 0},
            {0, 1, -1, 0, 0, 0, 0, 0}, {0, 1, 64, 64, 0, 0, 0, 0}, {0, 1, 0, 64, 0, 0, 0, 0}, {0, 1, 1, 0, 0, 0, 0, 0},
            {0, 1, 0, 0, -1, 0, 0, 0}, {0, 1, 0, 0, 0, 8, 0, 0}, {0, 1, 0, 0, 1, 0, 0, 0}, {0, 0, 0, 0, 1, 1, 0, 0},
            {0, 1, 0, 0, 0, 0, -1, 0}, {0, 1, 0, 0, 0, 0, 0, 6}, {0, 1, 0, 0, 0, 0, 1, 0}, {0, 1, 0, 0, 0, 0, 6, 6}};
        AshCity x = Edges.at(5);
        for (int[] w : wrong) {
            Due.none("dig " + java.util.Arrays.toString(w), x.dig(w[0], w[1], w[2], w[3], w[4], w[5], w[6], w[7]));
        }
        Due.is("none is there", x.count(4), 0);
        Due.is("the ground is kept", x.ground(0, 0, 5, 5), 0);
        Due.is("and none was counted", x.dig(0, 1, 0, 0, 0, 0, 0, 5), 0);
    }

    @Says(in = 6, words = "100 are there")
    static void hundredDigs() {
        AshCity x = new AshCity();
        for (int i = 0; i < 99; i++) {
            x.dig(0, REFILL, 0, 0, 0, 0, 0, 0);
        }
        x.strike(0);
        Due.is("the 100th", x.dig(0, REFILL, 0, 0, 0, 0, 0, 0), 99);
        Due.none("a 101st, though one is struck", x.dig(0, OPEN, 0, 0, 0, 0, 0, 0));
        Due.is("it opened nothing", x.ground(0, 0, 0, 0), 0);
        Due.is("100", x.count(4), 100);
        Due.is("a place is taken still", x.place(0, 0, 63), 0);
    }

    @Says(in = 7, words = "false: no such one")
    static void strikeOfNone() {
        AshCity x = new AshCity();
        Due.no("of none", x.strike(0));
        x.dig(0, 0, 0, 0, 0, 0, 0, 0);
        int[] wrong = {-1, 1, Integer.MIN_VALUE, Integer.MAX_VALUE};
        for (int i : wrong) {
            Due.no("strike " + i, x.strike(i));
        }
        Due.is("it is known", x.ground(0, 0, 0, 0), 2);
        Due.yes("strike 0", x.strike(0));
        for (int i = 1; i < 100; i++) {
            x.dig(0, 0, 0, 0, 0, 0, 0, 0);
        }
        Due.no("strike 100 of a hundred", x.strike(100));
        Due.yes("strike 99 of a hundred", x.strike(99));
    }

    @Says(in = 7, words = "it is.")
    static void strikeTwice() {
        AshCity x = new AshCity();
        x.dig(0, 0, 0, 0, 0, 0, 0, 0);
        x.now(5);
        x.strike(0);
        x.now(7);
        Due.no("once more", x.strike(0));
        Due.is("known up to the first strike", x.ground(0, 0, 0, 4), 2);
        Due.is("not from the first strike on", x.ground(0, 0, 0, 5), 0);
        Due.is("it is counted still", x.count(4), 1);
    }

    @Says(in = 8, words = "NONE: no such ones")
    static void groundOfNone() {
        AshCity x = new AshCity();
        digAll(x, OPEN, 0, 7, 0, 0);
        Due.is("the last cell, layer and week", x.ground(63, 7, 9999, 9999), 2);
        int[][] wrong = {{-1, 0, 0, 0}, {64, 0, 0, 0}, {0, -1, 0, 0}, {0, 8, 0, 0}, {0, 0, -1, 0}, {0, 0, 10000, 0}, {0, 0, 0, -1}, {0, 0, 0, 10000}};
        for (int[] w : wrong) {
            Due.none("ground " + java.util.Arrays.toString(w), x.ground(w[0], w[1], w[2], w[3]));
        }
        for (int i = 0; i < 4; i++) {
            int[] far = new int[4];
            far[i] = Integer.MIN_VALUE;
            Due.none("ground far below", x.ground(far[0], far[1], far[2], far[3]));
            far[i] = Integer.MAX_VALUE;
            Due.none("ground far above", x.ground(far[0], far[1], far[2], far[3]));
        }
    }

    @Says(in = 9, words = "NONE: nobody")
    static void firstIsNobody() {
        AshCity x = Edges.at(5);
        Due.none("nothing was dug", x.first(0, 0, 5, 5));
        x.dig(0, 0, 0, 0, 0, 0, 3, 3);
        Due.none("ahead of it", x.first(0, 0, 2, 5));
        Due.is("then", x.first(0, 0, 3, 5), 0);
        Due.none("beside it", x.first(1, 0, 5, 5));
        Due.none("below it", x.first(0, 1, 5, 5));
        Due.none("as known ahead of it", x.first(0, 0, 5, 4));
    }

    @Says(in = 9, words = "no such ones")
    static void firstOfNone() {
        AshCity x = new AshCity();
        digAll(x, OPEN, 0, 7, 0, 0);
        Due.is("the last cell, layer and week", x.first(63, 7, 9999, 9999), 0);
        int[][] wrong = {{-1, 0, 0, 0}, {64, 0, 0, 0}, {0, -1, 0, 0}, {0, 8, 0, 0}, {0, 0, -1, 0}, {0, 0, 10000, 0}, {0, 0, 0, -1}, {0, 0, 0, 10000}};
        for (int[] w : wrong) {
            Due.none("first " + java.util.Arrays.toString(w), x.first(w[0], w[1], w[2], w[3]));
        }
        for (int i = 0; i < 4; i++) {
            int[] far = new int[4];
            far[i] = Integer.MIN_VALUE;
            Due.none("first far below", x.first(far[0], far[1], far[2], far[3]));
            far[i] = Integer.MAX_VALUE;
            Due.none("first far above", x.first(far[0], far[1], far[2], far[3]));
        }
    }
}
