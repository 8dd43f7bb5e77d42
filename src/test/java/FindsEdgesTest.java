/** Edges of FINDS: terms 3 up to BARRED, BESIDE of terms 6, promises 15 to 19 and 41. */
public final class FindsEdgesTest {
    private static final int OPEN = 0;
    private static final int TUNNEL = 1;
    private static final int REFILL = 2;

    public static void main(String[] args) {
        Edges.run(FindsEdgesTest.class);
    }

    /** A FIND of HAND 0 in some WEEKS, of the topmost LAYER, KIND 0 and no MARKS. */
    private static int find(AshCity x, int from, int to, int number) {
        return x.find(0, from, to, number, 0, 0, 0, 0);
    }

    @Says(in = 0, words = "FINDS 0 to 149, told at NOW")
    static void findsAreToldAtNow() {
        AshCity x = Edges.at(9);
        for (int i = 0; i < 150; i++) {
            Due.is("find", find(x, 3, 3, 0), i);
        }
        Due.none("not known ahead of NOW", x.may(149, 8));
        Due.is("known from NOW on", x.may(149, 9), 0);
        Due.none("none is nowhere ahead of NOW", x.nowhere(0, 8));
        Due.is("all are from NOW on", x.nowhere(149, 9), 149);
    }

    @Says(in = 0, words = "WEEKS from one to another (20 at most; not behind NOW)")
    static void weeksOfFinds() {
        Edges.range("first week", 31, 50, w -> find(Edges.at(60), w, 50, 0) == 0);
        Edges.range("last week", 31, 50, w -> find(Edges.at(60), 31, w, 0) == 0);
        Edges.range("last week up to NOW", 31, 35, w -> find(Edges.at(35), 31, w, 0) == 0);
        Edges.range("both", 0, 35, w -> find(Edges.at(35), w, w, 0) == 0);
        Due.none("21 weeks", find(Edges.at(60), 30, 50, 0));
        Due.none("the wrong way round", find(Edges.at(60), 50, 49, 0));
        Due.is("the last twenty of all", find(Edges.at(9999), 9980, 9999, 0), 0);
        Due.none("far apart", find(Edges.at(9999), Integer.MIN_VALUE, Integer.MAX_VALUE, 0));
        Due.none("far apart, so that the difference wraps", find(Edges.at(9999), Integer.MIN_VALUE, 5, 0));
        AshCity x = Edges.withPlaces(3, 60);
        x.dig(0, OPEN, 0, 0, 0, 0, 31, 31);
        x.dig(0, OPEN, 1, 1, 0, 0, 50, 50);
        x.dig(0, OPEN, 2, 2, 0, 0, 51, 60);
        x.dig(0, OPEN, 2, 2, 0, 0, 0, 30);
        find(x, 31, 50, 0);
        Due.is("the first and the last week count", x.may(0, 60), 3);
    }

    @Says(in = 0, words = "a NUMBER (0 to 99; 0: none told)")
    static void numbersOfFinds() {
        Edges.range("number", 0, 99, n -> find(new AshCity(), 0, 0, n) == 0);
        AshCity x = Edges.withPlaces(2, 0);
        x.dig(0, OPEN, 0, 1, 0, 0, 0, 0);
        x.means(0, 1, 0, 0, 0);
        x.means(0, 99, 1, 0, 0);
        int[][] rows = {{0, 3}, {1, 1}, {2, 0}, {98, 0}, {99, 2}};
        for (int i = 0; i < rows.length; i++) {
            find(x, 0, 0, rows[i][0]);
            Due.is("number " + rows[i][0], x.may(i, 0), rows[i][1]);
        }
        Due.rules(x, 0, 9, "n3");
        Due.is("without a number no rule asks", x.may(0, 0), 3);
        Due.is("by no numbering that means it", x.may(1, 0), 0);
    }

    @Says(in = 0, words = "LAYERS from one to another (both too), a KIND (0 to 7), MARKS (8 bits)")
    static void layersKindAndMarks() {
        Edges.range("hand", 0, 7, h -> new AshCity().find(h, 0, 0, 0, 0, 0, 0, 0) == 0);
        Edges.range("top", 0, 7, l -> new AshCity().find(0, 0, 0, 0, l, 7, 0, 0) == 0);
        Edges.range("bottom", 0, 7, l -> new AshCity().find(0, 0, 0, 0, 0, l, 0, 0) == 0);
        Edges.range("kind", 0, 7, k -> new AshCity().find(0, 0, 0, 0, 0, 0, k, 0) == 0);
        Edges.range("marks", 0, 255, m -> new AshCity().find(0, 0, 0, 0, 0, 0, 0, m) == 0);
        Due.none("upside down", new AshCity().find(0, 0, 0, 0, 5, 4, 0, 0));
        AshCity x = Edges.withPlaces(2, 0);
        x.dig(0, TUNNEL, 0, 0, 2, 2, 0, 0);
        x.dig(0, TUNNEL, 1, 1, 5, 5, 0, 0);
        int[][] rows = {{0, 1, 0}, {0, 2, 1}, {2, 2, 1}, {3, 4, 0}, {2, 5, 3}, {5, 7, 2}, {6, 7, 0}, {0, 7, 3}};
        for (int i = 0; i < rows.length; i++) {
            x.find(0, 0, 0, 0, rows[i][0], rows[i][1], 0, 0);
            Due.is("layers " + rows[i][0] + " to " + rows[i][1], x.may(i, 0), rows[i][2]);
        }
    }

    @Says(in = 0, words = "if there is a WEEK of its WEEKS on which its NUMBER means that PLACE by a NUMBERING by which lines may be")
    static void oneWeekForAll() {
        AshCity x = Edges.withPlaces(2, 60);
        x.dig(0, OPEN, 0, 1, 0, 0, 10, 10);
        x.means(0, 5, 0, 11, 11);
        x.means(3, 6, 1, 10, 10);
        find(x, 5, 20, 5);
        Due.is("it means the place a week behind the dig", x.may(0, 60), 0);
        x.dig(0, OPEN, 0, 1, 0, 0, 11, 11);
        Due.is("it means the place in the week of a dig", x.may(0, 60), 1);
        find(x, 10, 10, 6);
        Due.is("by the last numbering", x.may(1, 60), 2);
        Due.rules(x, 11, 11, "n0");
        Due.is("a rule of another week", x.may(1, 60), 2);
        Due.rules(x, 10, 10, "n0");
        Due.is("a rule of that week", x.may(1, 60), 0);
        Due.is("by a numbering that may be", x.may(0, 60), 1);
        find(x, 12, 12, 5);
        Due.is("neither dug nor meant", x.may(2, 60), 0);
    }

    @Says(in = 0, words = "(letters: that WEEK, its HAND, KIND, MARKS, that PLACE; or the NUMBER is 0)")
    static void lettersOfFinds() {
        String[] conditions = {"w=12", "h=7", "k=7", "m=255", "p=2"};
        for (String c : conditions) {
            Due.is(c, mayBy("n1(" + c + ");n0(!" + c + ")"), 4);
            Due.is("not " + c, mayBy("n0(" + c + ");n1(!" + c + ")"), 0);
        }
    }

    /** May of a FIND that means PLACE 2 by NUMBERING 1 alone, of HAND 7, KIND 7, MARKS 255, in the WEEKS 11 and 12, dug on 12. */
    private static int mayBy(String text) {
        AshCity x = Edges.withPlaces(3, 60);
        x.dig(7, OPEN, 0, 2, 0, 0, 12, 12);
        x.means(1, 5, 2, 0, 9999);
        x.find(7, 11, 12, 5, 0, 0, 7, 255);
        Due.is("rules", Due.rules(x, 0, 9999, text), 0);
        return x.may(0, 60);
    }

    @Says(in = 0, words = "a DIG KNOWN on t of that HAND, OPEN or TUNNEL, whose WEEKS have it, has a CELL of that PLACE and a LAYER of its LAYERS")
    static void theDigOfAFind() {
        Due.is("open", mayOfDig(0, OPEN, 27, 0, 3), 1);
        Due.is("tunnel", mayOfDig(0, TUNNEL, 27, 0, 3), 1);
        Due.is("refill", mayOfDig(0, REFILL, 27, 0, 3), 0);
        Due.is("another hand", mayOfDig(1, OPEN, 27, 0, 3), 0);
        Due.is("its other corner", mayOfDig(0, OPEN, 36, 0, 3), 1);
        int[] beside = {18, 20, 26, 29, 34, 37, 43, 45};
        for (int c : beside) {
            Due.is("cell " + c + " beside the place", mayOfDig(0, OPEN, c, 0, 3), 0);
        }
        Due.is("down to the find's first layer", mayOfDig(0, OPEN, 27, 0, 3), 1);
        Due.is("not down to it", mayOfDig(0, OPEN, 27, 0, 2), 0);
        Due.is("from the find's last layer on", mayOfDig(0, TUNNEL, 27, 5, 7), 1);
        Due.is("below it", mayOfDig(0, TUNNEL, 27, 6, 7), 0);
    }

    @Says(in = 0, words = "has a CELL of that PLACE and a LAYER of its LAYERS")
    static void placesToldBehindTheDigs() {
        AshCity x = new AshCity();
        x.dig(0, OPEN, 0, 9, 0, 0, 0, 0);
        x.dig(1, OPEN, 18, 18, 0, 0, 0, 0);
        x.find(0, 0, 0, 0, 0, 0, 0, 0);
        x.find(1, 0, 0, 0, 0, 0, 0, 0);
        Due.is("no place is there", x.may(0, 0), 0);
        x.place(0, 2, 2);
        Due.is("a place beside it", x.may(0, 0), 0);
        x.place(0, 9, 18);
        Due.is("a place that has a corner of the first dig", x.may(0, 0), 2);
        Due.is("and of the second", x.may(1, 0), 2);
        x.place(0, 0, 1);
        Due.is("another one", x.may(0, 0), 6);
        Due.is("not of the second", x.may(1, 0), 2);
    }

    @Says(in = 0, words = "on which its NUMBER means that PLACE by a NUMBERING by which lines may be")
    static void meantButNotDug() {
        AshCity x = Edges.withPlaces(3, 0);
        x.dig(0, OPEN, 1, 1, 0, 0, 0, 0);
        for (int n = 0; n < 3; n++) {
            x.means(n, 5, n, 0, 0);
        }
        find(x, 0, 0, 5);
        Due.is("of three that it means the one that was dug", x.may(0, 0), 2);
    }

    /** May of a FIND of HAND 0 in the LAYERS 3 to 5 where one DIG has one CELL; the PLACE has the CELLS 27, 28, 35, 36. */
    private static int mayOfDig(int hand, int kind, int cell, int top, int bottom) {
        AshCity x = new AshCity();
        x.place(0, 27, 36);
        x.dig(hand, kind, cell, cell, top, bottom, 0, 0);
        x.find(0, 0, 0, 0, 3, 5, 0, 0);
        return x.may(0, 0);
    }

    @Says(in = 0, words = "KNOWN on a WEEK t are DIGS told by t and not STRUCK by t, FINDS, DRAWINGS likewise told by t")
    static void knownFinds() {
        AshCity x = Edges.withPlaces(1, 3);
        find(x, 1, 1, 0);
        x.now(5);
        x.dig(0, OPEN, 0, 0, 0, 0, 1, 1);
        x.now(7);
        x.strike(0);
        int[] due = {-1, 0, 0, 1, 1, 0, 0};
        for (int t = 2; t < 9; t++) {
            Due.is("on " + t, x.may(0, t), due[t - 2]);
            Due.is("sure on " + t, x.sure(t), due[t - 2] == 1 ? 1 : 0);
            Due.is("nowhere on " + t, x.nowhere(0, t), due[t - 2] == 0 ? 0 : -1);
        }
    }

    @Says(in = 0, words = "SURE is a find that MAY BE of just one, NOWHERE one that MAY BE of none")
    static void justOneOrNone() {
        AshCity x = Edges.withPlaces(3, 9);
        find(x, 0, 0, 0);
        Due.is("of none: not sure", x.sure(9), 0);
        Due.is("of none: nowhere", x.nowhere(0, 9), 0);
        x.dig(0, OPEN, 2, 2, 0, 0, 0, 0);
        Due.is("of one: sure", x.sure(9), 1);
        Due.none("of one: not nowhere", x.nowhere(0, 9));
        x.dig(0, OPEN, 2, 2, 0, 0, 0, 9);
        Due.is("of one by two digs: sure", x.sure(9), 1);
        x.dig(0, OPEN, 0, 0, 0, 0, 0, 0);
        Due.is("of two: not sure", x.sure(9), 0);
        Due.none("of two: not nowhere", x.nowhere(0, 9));
    }

    @Says(in = 0, words = "BARRED is a DIG (OPEN, TUNNEL) of which some LAYER is below THE NUMBER f on its first WEEK")
    static void barredDigs() {
        AshCity x = Edges.at(9);
        Due.rules(x, 5, 5, "f3");
        x.dig(0, TUNNEL, 0, 0, 3, 3, 5, 9);
        x.dig(0, TUNNEL, 0, 0, 3, 4, 5, 9);
        x.dig(0, TUNNEL, 0, 0, 4, 4, 5, 9);
        x.dig(0, OPEN, 0, 0, 0, 3, 5, 5);
        x.dig(0, OPEN, 0, 0, 0, 4, 5, 5);
        x.dig(0, OPEN, 0, 0, 0, 7, 4, 5);
        x.dig(0, OPEN, 0, 0, 0, 7, 6, 6);
        int[] due = {0, 1, 1, 0, 1, 0, 0};
        for (int i = 0; i < due.length; i++) {
            Due.is("dig " + i, x.barred(i), due[i]);
        }
        AshCity y = new AshCity();
        y.dig(0, OPEN, 0, 0, 0, 7, 0, 0);
        Due.is("without a rule nothing is barred", y.barred(0), 0);
        Due.rules(y, 0, 0, "f0");
        y.dig(0, OPEN, 0, 0, 0, 0, 0, 0);
        y.dig(0, OPEN, 0, 0, 0, 1, 0, 0);
        Due.is("layer 0 is not below 0", y.barred(1), 0);
        Due.is("layer 1 is", y.barred(2), 1);
    }

    @Says(in = 0, words = "(letters: that WEEK, its HAND and KIND, no MARKS, no PLACE)")
    static void lettersOfDigs() {
        String[] right = {"w=5", "h=7", "k=1", "m=0", "p<0"};
        String[] wrong = {"w=6", "h<7", "k=0", "m>0", "p=0"};
        for (int i = 0; i < right.length; i++) {
            Due.is(right[i], barredBy(right[i]), 1);
            Due.is(wrong[i], barredBy(wrong[i]), 0);
        }
    }

    private static int barredBy(String condition) {
        AshCity x = Edges.withPlaces(1, 9);
        x.dig(7, TUNNEL, 0, 0, 1, 1, 5, 6);
        Due.rules(x, 0, 9, "f0(" + condition + ")");
        return x.barred(0);
    }

    @Says(in = 15, words = "no such ones")
    static void noSuchFind() {
        int[][] wrong = {{-1, 0, 0, 0, 0, 0, 0, 0}, {8, 0, 0, 0, 0, 0, 0, 0}, {0, -1, 0, 0, 0, 0, 0, 0}, {0, 1, 0, 0, 0, 0, 0, 0}, {0, 0, 31, 0, 0, 0, 0, 0},
            {0, 0, 20, 0, 0, 0, 0, 0}, {0, 30, 31, 0, 0, 0, 0, 0}, {0, 31, 31, 0, 0, 0, 0, 0}, {0, 0, 0, -1, 0, 0, 0, 0}, {0, 0, 0, 100, 0, 0, 0, 0},
            {0, 0, 0, 0, -1, 0, 0, 0}, {0, 0, 0, 0, 0, 8, 0, 0}, {0, 0, 0, 0, 1, 0, 0, 0}, {0, 0, 0, 0, 0, 0, -1, 0}, {0, 0, 0, 0, 0, 0, 8, 0},
            {0, 0, 0, 0, 0, 0, 0, -1}, {0, 0, 0, 0, 0, 0, 0, 256}};
        AshCity x = Edges.at(30);
        for (int[] w : wrong) {
            Due.none("find " + java.util.Arrays.toString(w), x.find(w[0], w[1], w[2], w[3], w[4], w[5], w[6], w[7]));
        }
        Due.is("none is there", x.count(6), 0);
        Due.none("none may be", x.may(0, 30));
        Due.is("the next is the first", x.find(7, 11, 30, 99, 0, 7, 7, 255), 0);
    }

    @Says(in = 15, words = "150 are there")
    static void hundredAndFiftyFinds() {
        AshCity x = new AshCity();
        for (int i = 0; i < 149; i++) {
            find(x, 0, 0, 0);
        }
        Due.is("the 150th", find(x, 0, 0, 0), 149);
        Due.none("a 151st", find(x, 0, 0, 0));
        Due.is("150", x.count(6), 150);
        Due.is("the last one", x.may(149, 0), 0);
        Due.none("none behind it", x.may(150, 0));
    }

    @Says(in = 16, words = "PLACES of which FIND i MAY BE as KNOWN on t, as bits")
    static void bitsOfPlaces() {
        AshCity x = Edges.withPlaces(30, 0);
        x.dig(0, OPEN, 0, 63, 0, 0, 0, 0);
        x.dig(1, OPEN, 29, 29, 0, 0, 0, 0);
        x.dig(2, OPEN, 0, 0, 0, 0, 0, 0);
        for (int h = 0; h < 4; h++) {
            x.find(h, 0, 0, 0, 0, 0, 0, 0);
        }
        Due.is("all thirty", x.may(0, 0), (1 << 30) - 1);
        Due.is("the last", x.may(1, 0), 1 << 29);
        Due.is("the first", x.may(2, 0), 1);
        Due.is("none", x.may(3, 0), 0);
    }

    @Says(in = 16, words = "NONE: no such ones")
    static void mayOfNone() {
        AshCity x = Edges.withPlaces(1, 0);
        Due.none("of none", x.may(0, 0));
        find(x, 0, 0, 0);
        int[][] wrong = {{-1, 0}, {1, 0}, {0, -1}, {0, 10000}, {Integer.MIN_VALUE, 0}, {Integer.MAX_VALUE, 0}, {0, Integer.MIN_VALUE}, {0, Integer.MAX_VALUE}};
        for (int[] w : wrong) {
            Due.none("may " + java.util.Arrays.toString(w), x.may(w[0], w[1]));
        }
        Edges.range("t", 0, 9999, t -> x.may(0, t) == 0);
    }

    @Says(in = 16, words = "it was told behind t")
    static void toldBehind() {
        AshCity x = Edges.at(9999);
        find(x, 0, 0, 0);
        Due.none("the week ahead", x.may(0, 9998));
        Due.is("that week", x.may(0, 9999), 0);
        Due.none("week 0", x.may(0, 0));
    }

    @Says(in = 17, words = "NONE: no such WEEK")
    static void sureOnNoWeek() {
        Edges.range("t without finds", 0, 9999, t -> new AshCity().sure(t) == 0);
        AshCity x = Edges.withPlaces(1, 0);
        x.dig(0, OPEN, 0, 0, 0, 0, 0, 0);
        find(x, 0, 0, 0);
        Edges.range("t", 0, 9999, t -> x.sure(t) == 1);
    }

    @Says(in = 17, words = "How many FINDS are SURE as KNOWN on t")
    static void sureWhenTold() {
        AshCity x = Edges.withPlaces(1, 0);
        x.dig(0, OPEN, 0, 0, 0, 0, 0, 0);
        for (int week = 5; week < 8; week++) {
            x.now(week);
            find(x, 0, 0, 0);
        }
        int[][] rows = {{0, 0}, {4, 0}, {5, 1}, {6, 2}, {7, 3}, {9999, 3}};
        for (int[] r : rows) {
            Due.is("on " + r[0], x.sure(r[0]), r[1]);
        }
    }

    @Says(in = 17, words = "How many FINDS are SURE as KNOWN on t")
    static void allAreSure() {
        AshCity x = Edges.withPlaces(1, 0);
        x.dig(0, OPEN, 0, 0, 0, 0, 0, 0);
        for (int i = 0; i < 150; i++) {
            find(x, 0, 0, 0);
        }
        Due.is("all", x.sure(0), 150);
        x.now(1);
        x.strike(0);
        Due.is("none", x.sure(1), 0);
        Due.is("all as known then", x.sure(0), 150);
    }

    @Says(in = 18, words = "The k-th (from 0 on, by numbers) of FINDS that are NOWHERE")
    static void byNumbers() {
        AshCity x = Edges.withPlaces(1, 9);
        x.dig(0, OPEN, 0, 0, 0, 0, 5, 5);
        int[] weeks = {5, 4, 5, 6, 5, 5, 3};
        for (int w : weeks) {
            find(x, w, w, 0);
        }
        int[] due = {1, 3, 6, -1};
        for (int k = 0; k < due.length; k++) {
            Due.is("the " + k + "-th", x.nowhere(k, 9), due[k]);
        }
    }

    @Says(in = 18, words = "NONE: there is none such, no such WEEK")
    static void nowhereNone() {
        AshCity x = Edges.at(5);
        Due.none("without finds", x.nowhere(0, 5));
        find(x, 0, 0, 0);
        Due.is("one", x.nowhere(0, 5), 0);
        Due.none("not told by then", x.nowhere(0, 4));
        int[] wrong = {-1, 1, Integer.MIN_VALUE, Integer.MAX_VALUE};
        for (int k : wrong) {
            Due.none("k " + k, x.nowhere(k, 5));
        }
        Edges.range("t", 5, 9999, t -> x.nowhere(0, t) == 0);
        Due.none("week -1", x.nowhere(0, -1));
        Due.none("week 10000", x.nowhere(0, 10000));
    }

    @Says(in = 19, words = "NONE: no such one, REFILL")
    static void barredNone() {
        AshCity x = new AshCity();
        Due.none("without digs", x.barred(0));
        x.dig(0, REFILL, 0, 0, 0, 7, 0, 0);
        x.dig(0, TUNNEL, 0, 0, 0, 7, 0, 0);
        Due.none("refill", x.barred(0));
        Due.is("tunnel", x.barred(1), 0);
        Due.rules(x, 0, 9, "f0");
        Due.none("refill, by rules, too", x.barred(0));
        Due.is("tunnel", x.barred(1), 1);
        int[] wrong = {-1, 2, 100, Integer.MIN_VALUE, Integer.MAX_VALUE};
        for (int i : wrong) {
            Due.none("dig " + i, x.barred(i));
        }
    }

    @Says(in = 0, words = "how many FINDS would be SURE as KNOWN now if in RULES all HANDS were a told one (h is that one; DIGS as they are)")
    static void allHandsAreOne() {
        AshCity x = Edges.withPlaces(2, 9);
        x.dig(2, OPEN, 0, 1, 0, 0, 0, 9);
        x.means(0, 5, 0, 0, 9999);
        x.means(1, 5, 1, 0, 9999);
        x.find(2, 0, 0, 5, 0, 0, 0, 0);
        x.find(3, 0, 0, 5, 0, 0, 0, 0);
        Due.rules(x, 0, 9999, "n0;n1(h=2)");
        Due.is("as it is", x.sure(9), 0);
        for (int h = 0; h < 8; h++) {
            Due.is("by hand " + h, x.beside(h), h == 2 ? 0 : 1);
        }
        x.find(2, 0, 0, 0, 0, 0, 0, 0);
        Due.is("without a number", x.beside(0), 1);
        x.now(10);
        x.strike(0);
        Due.is("as known now", x.beside(0), 0);
        AshCity y = Edges.withPlaces(2, 9);
        y.dig(0, OPEN, 0, 0, 0, 0, 0, 9);
        y.find(0, 0, 0, 0, 0, 0, 0, 0);
        Due.is("digs have the hands that they have", y.beside(7), 1);
    }

    @Says(in = 41, words = "NONE: no such one")
    static void besideNone() {
        Edges.range("hand", 0, 7, h -> new AshCity().beside(h) == 0);
        AshCity x = Edges.withPlaces(1, 0);
        x.dig(0, OPEN, 0, 0, 0, 0, 0, 0);
        find(x, 0, 0, 0);
        Edges.range("hand", 0, 7, h -> x.beside(h) == 1);
    }
}
