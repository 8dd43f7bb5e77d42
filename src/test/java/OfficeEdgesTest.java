/** Edges of the whole: 512 calls, CHECK of terms 6, memory, the constant, promises 42 and 43. */
public final class OfficeEdgesTest {
    public static void main(String[] args) {
        Edges.run(OfficeEdgesTest.class);
    }

    private static int check(AshCity x, int n, int... numbers) {
        Due.feedNumbers(x, numbers);
        return x.check(n);
    }

    /** Cell 3 is TUNNELLED in LAYER 7, cell 5 OPENED in 0 and REFILLED in 1. */
    private static AshCity dug() {
        AshCity x = Edges.at(9);
        x.dig(0, 0, 5, 5, 0, 1, 3, 3);
        x.dig(0, 1, 3, 3, 7, 7, 3, 3);
        x.dig(0, 2, 5, 5, 1, 1, 9, 9);
        return x;
    }

    @Says(in = 0, words = "An object is used for at most 512 calls after it has been made")
    static void calls512() {
        AshCity x = new AshCity();
        for (int i = 1; i <= 510; i++) {
            Due.yes("call " + i, x.now(i));
        }
        Due.is("call 511", x.place(0, 0, 63), 0);
        Due.is("call 512", x.placeOf(63), 0);
    }

    @Says(in = 0, words = "All memory is the office's own.")
    static void ownMemory() {
        AshCity x = dug();
        AshCity y = new AshCity();
        x.feed(1, 2, 3, 4, 5);
        x.place(0, 0, 0);
        x.ash(0, 5, 6);
        x.height(0, 0);
        for (int i = 0; i < 16; i++) {
            Due.is("count " + i + " of another one", y.count(i), i == 1 || i == 2 ? 8 : 0);
        }
        Due.is("ground of another one", y.ground(5, 0, 9, 9), 0);
        Due.is("hours of another one", y.hour(0, 0), 0);
        Due.none("places of another one", y.placeOf(0));
        Due.is("and it goes on by itself", y.place(0, 0, 63), 0);
        Due.none("without the first one", x.placeOf(63));
    }

    @Says(in = 0, words = "`NONE = -1`: There is none.")
    static void constant() {
        Due.is("NONE", AshCity.NONE, -1);
    }

    @Says(in = 0, words = "CHECK: threes of numbers: a CELL, a LAYER and its GROUND (not 0), all of NOW as KNOWN now, by CELLS, then LAYERS: right, or the first number that is not so")
    static void threes() {
        int[] right = {3, 7, 1, 5, 0, 2, 5, 1, 3};
        Due.none("right", check(dug(), 3, right));
        for (int i = 0; i < 9; i++) {
            int[] changes = {right[i] + 1, right[i] - 1, -right[i] - 1, right[i] + 256, right[i] + 65536, right[i] + (1 << 24), Integer.MIN_VALUE, Integer.MAX_VALUE};
            for (int c : changes) {
                int[] wrong = right.clone();
                wrong[i] = c;
                Due.is("number " + i + " is " + c, check(dug(), 3, wrong), i);
            }
        }
        Due.is("of two wrong ones the first", check(dug(), 3, 3, 7, 1, 5, 0, 3, 5, 1, 2), 5);
        Due.is("by cells", check(dug(), 3, 5, 0, 2, 5, 1, 3, 3, 7, 1), 0);
        Due.is("then layers", check(dug(), 3, 3, 7, 1, 5, 1, 3, 5, 0, 2), 4);
        Due.is("what is kept is not told", check(dug(), 4, 0, 0, 0, 3, 7, 1, 5, 0, 2, 5, 1, 3), 0);
    }

    @Says(in = 0, words = "all of NOW as KNOWN now")
    static void ofNow() {
        AshCity x = dug();
        x.now(10);
        x.strike(2);
        Due.none("a refill that is struck", check(x, 3, 3, 7, 1, 5, 0, 2, 5, 1, 2));
        x.now(9999);
        Due.none("at the last week", check(x, 3, 3, 7, 1, 5, 0, 2, 5, 1, 2));
        x.strike(0);
        x.strike(1);
        Due.none("nothing is left", x.check(0));
        AshCity y = new AshCity();
        y.dig(0, 0, 63, 63, 0, 7, 0, 0);
        int[] numbers = new int[24];
        for (int l = 0; l < 8; l++) {
            numbers[3 * l] = 63;
            numbers[3 * l + 1] = l;
            numbers[3 * l + 2] = 2;
        }
        Due.none("the last cell, all layers, on week 0", check(y, 8, numbers));
    }

    @Says(in = 42, words = "CHECK by the first 3 n numbers of the tape (four bytes each; empty then)")
    static void checkBytes() {
        AshCity x = dug();
        Due.none("what stands behind is not asked", check(x, 3, 3, 7, 1, 5, 0, 2, 5, 1, 3, 99));
        Due.is("empty then", x.count(14), 0);
        Due.is("wrong", check(x, 3, 4, 7, 1, 5, 0, 2, 5, 1, 3), 0);
        Due.is("empty then", x.count(14), 0);
        Due.is("none of them", check(x, 0, 3, 7, 1), 0);
        Due.is("empty then", x.count(14), 0);
        AshCity y = new AshCity();
        y.feed(1, 2, 3, 4, 5);
        Due.none("nothing to tell", y.check(0));
        Due.is("empty then", y.count(14), 0);
    }

    @Says(in = 42, words = "NONE: right")
    static void checkRight() {
        Due.none("of nothing", new AshCity().check(0));
        Due.none("of three", check(dug(), 3, 3, 7, 1, 5, 0, 2, 5, 1, 3));
        AshCity full = new AshCity();
        full.dig(0, 0, 0, 3, 0, 7, 0, 0);
        full.dig(0, 1, 4, 4, 7, 7, 0, 0);
        int[] numbers = new int[99];
        for (int i = 0; i < 33; i++) {
            numbers[3 * i] = i / 8;
            numbers[3 * i + 1] = i < 32 ? i % 8 : 7;
            numbers[3 * i + 2] = i < 32 ? 2 : 1;
        }
        Due.none("of 33, the most that a tape holds", check(full, 33, numbers));
    }

    @Says(in = 42, words = "else the place of the first number that is not so (3 n: some are lacking)")
    static void checkLacking() {
        Due.is("all", dug().check(0), 0);
        Due.is("two", check(dug(), 1, 3, 7, 1), 3);
        Due.is("one", check(dug(), 2, 3, 7, 1, 5, 0, 2), 6);
        Due.is("a wrong one ahead", check(dug(), 2, 3, 7, 1, 5, 0, 3), 5);
        Due.is("one too much", check(dug(), 4, 3, 7, 1, 5, 0, 2, 5, 1, 3, 5, 2, 1), 9);
        Due.is("one twice", check(dug(), 4, 3, 7, 1, 5, 0, 2, 5, 1, 3, 5, 1, 3), 9);
        Due.is("where nothing is to be told", check(new AshCity(), 1, 0, 0, 0), 0);
    }

    @Says(in = 42, words = "-2: it has not so many (the tape stays)")
    static void checkShortTape() {
        AshCity x = dug();
        Due.is("of an empty tape", x.check(1), -2);
        Due.feedNumbers(x, 3, 7, 1, 5, 0);
        int[] wrong = {2, 3, 34, -1, Integer.MIN_VALUE, Integer.MAX_VALUE, 357913942, 715827883, 1431655766};
        for (int n : wrong) {
            Due.is("check " + n + " of five numbers", x.check(n), -2);
            Due.is("the tape stays", x.count(14), 20);
        }
        x.feed(2, 5, 1, 3, 0);
        Due.none("then it has so many", x.check(3));
        AshCity full = dug();
        Due.feedNumbers(full, new int[100]);
        Due.is("34 of 100 numbers", full.check(34), -2);
        Due.is("33 of them", full.check(33), 0);
    }

    @Says(in = 43, words = "20 + i CLAUSES of RULES i")
    static void clausesOfRules() {
        AshCity x = new AshCity();
        Due.none("of none", x.count(20));
        for (int i = 0; i < 20; i++) {
            StringBuilder text = new StringBuilder("n1");
            for (int c = 0; c < i % 10; c++) {
                text.append(";x0.0");
            }
            Due.rules(x, 0, 9, text.toString());
            Due.is("of rules " + i, x.count(20 + i), 1 + i % 10);
            Due.none("of the next", x.count(21 + i));
        }
        Due.is("of the first still", x.count(20), 1);
        Due.is("of the last", x.count(39), 10);
    }

    @Says(in = 43, words = "NONE for others.")
    static void noSuchCount() {
        AshCity x = new AshCity();
        int[] wrong = {-1, 16, 17, 18, 19, 20, 39, 40, 255, Integer.MIN_VALUE, Integer.MIN_VALUE + 20, Integer.MAX_VALUE};
        for (int what : wrong) {
            Due.none("count " + what, x.count(what));
        }
        Edges.range("what", 0, 15, what -> x.count(what) >= 0);
        for (int i = 0; i < 20; i++) {
            Due.rules(x, 0, 9, "n1");
        }
        Edges.range("what of 20 rules", 20, 39, what -> x.count(what) == 1);
        Due.none("40", x.count(40));
        Due.none("19", x.count(19));
    }

    @Says(in = 43, words = "0 NOW, 1 W, 2 H, 3 PLACES, 4 DIGS, 5 RULES, 6 FINDS, 7 THINGS, 8 WALLS, 9 DRAWINGS, 10 CUTS, 11 HOLLOWS, 12 SIGNS, 13 WORKS, 14 bytes of the tape, 15 tellings of NUMBERS")
    static void countsOne() {
        int[] due = new int[16];
        AshCity x = new AshCity();
        due[0] = x.now(3) ? 3 : 0;
        due[1] = x.city(4, 5) ? 4 : 8;
        due[2] = 5;
        counted(x, due, 3, x.place(0, 0, 0) == 0);
        counted(x, due, 4, x.dig(0, 0, 0, 0, 0, 0, 0, 0) == 0);
        counted(x, due, 5, Due.rules(x, 0, 9, "n1") == 0);
        counted(x, due, 6, x.find(0, 0, 0, 0, 0, 0, 0, 0) == 0);
        counted(x, due, 7, x.thing(0, 0, 0) == 0);
        counted(x, due, 8, x.wall(0, 1) == 0);
        counted(x, due, 9, x.draw(0, 0, 0) == 0);
        counted(x, due, 9, x.copy(0, 0) == 1);
        counted(x, due, 10, x.above(0, 1));
        counted(x, due, 11, x.hollow(0, 0) == 0);
        counted(x, due, 12, x.sign(0, 0, 0, 0));
        counted(x, due, 13, x.work(0, 1, 1) == 0);
        counted(x, due, 15, x.means(0, 1, 0, 0, 0));
        due[14] = 19;
        counted(x, due, 14, x.feed(0, 0, 0, 0, 0) == 20);
        counted(x, due, 3, x.place(0, 1, 1) == 1);
    }

    /** One more of something is there, and of nothing else. */
    private static void counted(AshCity x, int[] due, int what, boolean told) {
        Due.yes("it is told", told);
        due[what]++;
        for (int i = 0; i < 16; i++) {
            Due.is("count " + i + " when " + what + " came", x.count(i), due[i]);
        }
    }
}
