/** Edges of THINGS: terms 3 from THINGS on, promises 20 to 25. */
public final class MuseumsEdgesTest {
    private static final int NO_THING = 60;

    public static void main(String[] args) {
        Edges.run(MuseumsEdgesTest.class);
    }

    /** FINDS of KIND 0 with some MARKS, on WEEK 0. */
    private static AshCity withFinds(int... marks) {
        AshCity x = new AshCity();
        for (int m : marks) {
            x.find(0, 0, 0, 0, 0, 0, 0, m);
        }
        return x;
    }

    private static AshCity withThings(AshCity x, int... marks) {
        for (int m : marks) {
            x.thing(0, 0, m);
        }
        return x;
    }

    private static int join(AshCity x, int... finds) {
        Due.feedBytes(x, finds);
        return x.join(finds.length);
    }

    private static int lost(AshCity x, int what, int... finds) {
        Due.feedBytes(x, finds);
        return x.lost(finds.length, what);
    }

    private static void row(AshCity x, int... due) {
        for (int i = 0; i < due.length; i++) {
            Due.is("the " + i + "-th", x.joined(i), due[i]);
        }
        Due.none("none behind the last", x.joined(due.length));
    }

    /** 0, 1, 2 .. */
    private static int[] upTo(int n) {
        int[] all = new int[n];
        for (int i = 0; i < n; i++) {
            all[i] = i;
        }
        return all;
    }

    @Says(in = 0, words = "THINGS 0 to 59 in MUSEUMS 0 to 9: a KIND, MARKS; GONE or not")
    static void things() {
        Edges.range("museum", 0, 9, m -> new AshCity().thing(m, 0, 0) == 0);
        Edges.range("kind", 0, 7, k -> new AshCity().thing(0, k, 0) == 0);
        Edges.range("marks", 0, 255, m -> new AshCity().thing(0, 0, m) == 0);
        AshCity x = withFinds(0);
        for (int i = 0; i < 60; i++) {
            Due.is("thing", x.thing(9, 0, 0), i);
        }
        Due.is("a new one is not gone", x.like(0, 59), 1);
        Due.no("it can't come back", x.gone(59, false));
    }

    @Says(in = 0, words = "A FIND is LIKE a THING of its KIND that is not GONE")
    static void kindAndGone() {
        AshCity x = new AshCity();
        x.find(0, 0, 0, 0, 0, 0, 7, 5);
        for (int k = 0; k < 8; k++) {
            x.thing(0, k, 5);
            Due.is("kind " + k, x.like(0, k), k == 7 ? 1 : 0);
        }
        x.gone(7, true);
        Due.is("gone", x.like(0, 7), 0);
        x.gone(7, false);
        Due.is("not any more", x.like(0, 7), 1);
    }

    @Says(in = 0, words = "if of their MARKS as many agree (of 8) as THE NUMBER a on the FIND's first WEEK wants, or more")
    static void asManyOrMore() {
        int[] marks = {0, 1, 3, 7, 15, 31, 63, 127, 255};
        for (int wanted = 0; wanted <= 8; wanted++) {
            AshCity x = withThings(withFinds(255), marks);
            Due.rules(x, 0, 0, "a" + wanted);
            for (int agree = 0; agree <= 8; agree++) {
                Due.is(agree + " agree, wanted " + wanted, x.like(0, agree), agree >= wanted ? 1 : 0);
            }
        }
        AshCity zeros = withThings(withFinds(0), 0, 1, 128);
        Due.is("marks that both lack agree", zeros.like(0, 0), 1);
        Due.is("the lowest does not agree", zeros.like(0, 1), 0);
        Due.is("the highest does not agree", zeros.like(0, 2), 0);
        AshCity weeks = Edges.at(9);
        weeks.find(0, 4, 6, 0, 0, 0, 0, 0);
        weeks.thing(0, 0, 255);
        Due.rules(weeks, 5, 9, "a0");
        Due.is("not by a later week", weeks.like(0, 0), 0);
        Due.rules(weeks, 4, 4, "a0");
        Due.is("by its first week", weeks.like(0, 0), 1);
    }

    @Says(in = 0, words = "(letters: that WEEK, the FIND's HAND, KIND, MARKS, no PLACE)")
    static void lettersOfLikes() {
        String[] right = {"w=4", "h=7", "k=6", "m=200", "p<0"};
        String[] wrong = {"w=5", "h<7", "k=1", "m=0", "p=0"};
        for (int i = 0; i < right.length; i++) {
            Due.is(right[i], likeBy(right[i]), 1);
            Due.is(wrong[i], likeBy(wrong[i]), 0);
        }
    }

    private static int likeBy(String condition) {
        AshCity x = Edges.withPlaces(1, 9);
        x.find(7, 4, 5, 0, 0, 0, 6, 200);
        x.thing(0, 6, 0);
        Due.rules(x, 0, 9, "a5(" + condition + ")");
        return x.like(0, 0);
    }

    @Says(in = 0, words = "of told FINDS (eight at most, no one twice, in their order)")
    static void toldFinds() {
        AshCity x = withThings(withFinds(1, 2, 3, 4, 5, 6, 7, 8, 9), 1, 2, 3, 4, 5, 6, 7, 8);
        Due.is("eight", join(x, 7, 6, 5, 4, 3, 2, 1, 0), 8);
        row(x, 7, 6, 5, 4, 3, 2, 1, 0);
        Due.none("nine", join(x, 0, 1, 2, 3, 4, 5, 6, 7, 8));
        Due.is("eight of the nine that stayed", x.join(8), 8);
        row(x, 0, 1, 2, 3, 4, 5, 6, 7);
        Due.is("the first twice", join(x, 3, 3), -2);
        Due.is("the first and the last", join(x, 3, 0, 1, 2, 4, 5, 6, 3), -2);
        row(x, 0, 1, 2, 3, 4, 5, 6, 7);
    }

    @Says(in = 0, words = "each gets a THING that it is LIKE, or none; no THING two")
    static void noThingForTwo() {
        AshCity x = withThings(withFinds(5, 5, 5, 6), 5);
        Due.is("one for three", join(x, 0, 1, 2), 1);
        row(x, 0, NO_THING, NO_THING);
        Due.is("what it is not like it does not get", join(x, 3), 0);
        row(x, NO_THING);
        x.thing(1, 0, 5);
        Due.is("two for three", join(x, 2, 1, 0), 2);
        row(x, 0, 1, NO_THING);
        AshCity y = withFinds(0);
        Due.is("of no things", join(y, 0), 0);
        row(y, NO_THING);
        AshCity spare = withThings(withFinds(1, 2, 3, 4, 5, 6, 7, 8), 1, 1, 1);
        Due.is("what is over goes to none that is not like it", join(spare, upTo(8)), 1);
        row(spare, 0, NO_THING, NO_THING, NO_THING, NO_THING, NO_THING, NO_THING, NO_THING);
    }

    @Says(in = 0, words = "of most FINDS that get one")
    static void mostFinds() {
        AshCity x = withThings(withFinds(0, 15), 0, 240);
        Due.rules(x, 0, 0, "a4");
        Due.is("the first one leaves what it fits best", join(x, 0, 1), 2);
        row(x, 1, 0);
        AshCity y = withFinds(0, 3, 12, 48);
        withThings(y, 0, 1, 4, 16);
        Due.rules(y, 0, 0, "a7");
        Due.is("all but those that fit nothing", join(y, 3, 2, 1, 0), 4);
        row(y, 3, 2, 1, 0);
    }

    @Says(in = 0, words = "of like ones of most MARKS that agree together")
    static void mostMarks() {
        AshCity x = withThings(withFinds(0, 0), 3, 1, 0);
        Due.rules(x, 0, 0, "a0");
        Due.is("both", join(x, 0, 1), 2);
        row(x, 1, 2);
        AshCity y = withThings(withFinds(1, 0), 0, 3);
        Due.rules(y, 0, 0, "a0");
        Due.is("both", join(y, 0, 1), 2);
        row(y, 1, 0);
        AshCity z = withThings(withFinds(0, 1), 1);
        Due.rules(z, 0, 0, "a0");
        Due.is("one of two", join(z, 0, 1), 1);
        row(z, NO_THING, 0);
    }

    @Says(in = 0, words = "of like ones the least row (none is 60)")
    static void leastRow() {
        AshCity x = withThings(withFinds(0, 0, 0), 0, 0);
        Due.is("two", join(x, 0, 1, 2), 2);
        row(x, 0, 1, NO_THING);
        AshCity y = withFinds(0, 1);
        withThings(y, 1, 0);
        Due.rules(y, 0, 0, "a7");
        Due.is("the first place of the row counts most only among like ones", join(y, 0, 1), 2);
        row(y, 1, 0);
        AshCity z = withThings(withFinds(0, 3), 1, 2);
        Due.rules(z, 0, 0, "a0");
        Due.is("seven agree each way", join(z, 0, 1), 2);
        row(z, 0, 1);
        AshCity last = withFinds(1, 2);
        for (int i = 0; i < 59; i++) {
            last.thing(0, 1, 0);
        }
        last.thing(0, 0, 2);
        Due.is("the last thing of all", join(last, 0, 1), 1);
        row(last, NO_THING, 59);
    }

    @Says(in = 0, words = "LOST of told FINDS: those that are LIKE no THING")
    static void lostFinds() {
        AshCity x = withThings(withFinds(1, 1, 2), 1);
        Due.is("one thing is enough for two", lost(x, 0, 0, 1), 0);
        Due.is("one is lost", lost(x, 0, 0, 1, 2), 1);
        x.gone(0, true);
        Due.is("what is gone is like none", lost(x, 0, 0, 1, 2), 3);
        Due.is("of none told", lost(x, 0), 0);
    }

    @Says(in = 0, words = "NEXT: the MUSEUM in which a THING is (GONE or not) that would make most of them not LOST if all its THINGS were there; of like ones the lowest")
    static void next() {
        AshCity x = withFinds(1, 2, 3);
        int[][] things = {{9, 1}, {9, 2}, {4, 3}, {4, 2}, {0, 1}, {0, 1}, {0, 99}};
        for (int k = 0; k < things.length; k++) {
            x.thing(things[k][0], 0, things[k][1]);
            x.gone(k, true);
        }
        Due.is("two by 9, two by 4, one by 0", lost(x, 1, 0, 1, 2), 4);
        Due.is("two by 9, one by 4, one by 0", lost(x, 1, 0, 1), 9);
        Due.is("one by 0, one by 9", lost(x, 1, 0), 0);
        x.gone(2, false);
        Due.is("what is found already does not count", lost(x, 1, 0, 1, 2), 9);
        x.gone(1, false);
        Due.is("one by 0, one by 9", lost(x, 1, 0, 1, 2), 0);
        x.gone(5, false);
        Due.none("none is lost", lost(x, 1, 0, 1, 2));
        AshCity behind = withThings(withFinds(1, 2, 7), 1);
        behind.thing(3, 0, 2);
        behind.thing(4, 0, 15);
        behind.gone(1, true);
        behind.gone(2, true);
        Due.is("those that are lost stand behind one that is not", lost(behind, 1, 0, 1), 3);
        Due.none("not like any", lost(behind, 1, 0, 2));
        Due.rules(behind, 0, 0, "a7(m=7)");
        Due.is("each by its own number a", lost(behind, 1, 0, 2), 4);
        AshCity most = withFinds(1, 2, 3);
        int[][] marks = {{0, 1}, {0, 2}, {9, 1}, {9, 2}, {9, 3}};
        for (int k = 0; k < marks.length; k++) {
            most.thing(marks[k][0], 0, marks[k][1]);
            most.gone(k, true);
        }
        Due.is("three by the last, two by the first", lost(most, 1, 0, 1, 2), 9);
    }

    @Says(in = 20, words = "no such ones")
    static void noSuchThing() {
        AshCity x = withFinds(0);
        int[][] wrong = {{-1, 0, 0}, {10, 0, 0}, {0, -1, 0}, {0, 8, 0}, {0, 0, -1}, {0, 0, 256}, {Integer.MIN_VALUE, 0, 0}, {0, Integer.MAX_VALUE, 0},
            {0, 0, Integer.MIN_VALUE}};
        for (int[] w : wrong) {
            Due.none("thing " + java.util.Arrays.toString(w), x.thing(w[0], w[1], w[2]));
        }
        Due.is("none is there", x.count(7), 0);
        Due.none("none to be like", x.like(0, 0));
    }

    @Says(in = 20, words = "60 are there")
    static void sixtyThings() {
        AshCity x = withFinds(7);
        for (int i = 0; i < 59; i++) {
            x.thing(0, 0, 0);
        }
        Due.is("the 60th", x.thing(0, 0, 0), 59);
        x.gone(0, true);
        Due.none("a 61st, though one is gone", x.thing(0, 0, 7));
        Due.is("60", x.count(7), 60);
        Due.is("nothing is like the find", lost(x, 0, 0), 1);
    }

    @Says(in = 21, words = "no such one")
    static void goneOfNone() {
        AshCity x = new AshCity();
        Due.no("without things", x.gone(0, true));
        x.thing(0, 0, 0);
        int[] wrong = {-1, 1, 60, Integer.MIN_VALUE, Integer.MAX_VALUE};
        for (int k : wrong) {
            Due.no("gone " + k, x.gone(k, true));
            Due.no("not gone " + k, x.gone(k, false));
        }
    }

    @Says(in = 21, words = "it is so")
    static void goneAlready() {
        AshCity x = withThings(withFinds(0), 0);
        Due.no("it is there", x.gone(0, false));
        Due.yes("it goes", x.gone(0, true));
        Due.no("it is gone", x.gone(0, true));
        Due.is("not like", x.like(0, 0), 0);
        Due.yes("it comes", x.gone(0, false));
        Due.no("it is there", x.gone(0, false));
        Due.is("like", x.like(0, 0), 1);
    }

    @Says(in = 22, words = "NONE: no such ones")
    static void likeOfNone() {
        AshCity x = withFinds(0, 0);
        Due.none("without things", x.like(0, 0));
        withThings(x, 0, 0, 0);
        Due.is("the last ones", x.like(1, 2), 1);
        int[][] wrong = {{-1, 0}, {2, 0}, {0, -1}, {0, 3}, {Integer.MIN_VALUE, 0}, {Integer.MAX_VALUE, 0}, {0, Integer.MIN_VALUE}, {0, Integer.MAX_VALUE}};
        for (int[] w : wrong) {
            Due.none("like " + java.util.Arrays.toString(w), x.like(w[0], w[1]));
        }
        Due.none("without finds", withThings(new AshCity(), 0).like(0, 0));
    }

    @Says(in = 23, words = "JOINED by the first n bytes of the tape (0 to 8 FINDS; empty then): how many get a THING")
    static void joinByBytes() {
        AshCity x = withThings(withFinds(1, 2), 1, 2);
        join(x, 1);
        Due.is("none", x.join(0), 0);
        row(x);
        Due.feedBytes(x, 1, 0, 99, 99);
        Due.is("two of four bytes", x.join(2), 2);
        row(x, 1, 0);
        Due.is("empty then, what stood behind, too", x.count(14), 0);
        Due.feedBytes(x, 1);
        Due.is("none of a tape that has some", x.join(0), 0);
        Due.is("empty then", x.count(14), 0);
        Edges.range("n", 0, 8, n -> {
            AshCity y = withFinds(1, 2, 3, 4, 5, 6, 7, 8, 9, 10);
            Due.feedBytes(y, upTo(10));
            return y.join(n) == 0;
        });
    }

    @Says(in = 23, words = "-2: no such FINDS, one twice")
    static void joinWrongFinds() {
        AshCity x = withThings(withFinds(1, 2), 1, 2);
        join(x, 1, 0);
        int[][] wrong = {{2}, {0, 2}, {255}, {128}, {149}, {150}, {0, 0}, {1, 0, 1}};
        for (int[] w : wrong) {
            Due.is("join " + java.util.Arrays.toString(w), join(x, w), -2);
            Due.is("empty then", x.count(14), 0);
        }
        row(x, 1, 0);
        Due.is("of no finds at all", join(new AshCity(), 0), -2);
        AshCity full = new AshCity();
        for (int i = 0; i < 150; i++) {
            full.find(0, 0, 0, 0, 0, 0, 0, 0);
        }
        Due.is("the last of 150", join(full, 149), 0);
        Due.is("behind the last", join(full, 150), -2);
    }

    @Says(in = 23, words = "NONE: no such n")
    static void joinNoSuchN() {
        AshCity x = withThings(withFinds(1, 2, 3, 4, 5, 6, 7, 8, 9), 1);
        join(x, 0);
        Due.feedBytes(x, upTo(9));
        int[] wrong = {-1, 9, 20, Integer.MIN_VALUE, Integer.MAX_VALUE};
        for (int n : wrong) {
            Due.none("join " + n, x.join(n));
            Due.is("the tape stays", x.count(14), 20);
        }
        row(x, 0);
        Due.is("eight", x.join(8), 1);
    }

    @Says(in = 23, words = "it has not so many (the tape stays)")
    static void joinShortTape() {
        AshCity x = withThings(withFinds(1), 1);
        join(x, 0);
        for (int n = 1; n <= 8; n++) {
            Due.none("join " + n + " of an empty tape", x.join(n));
        }
        row(x, 0);
        Due.is("0 of an empty tape is no refused one", x.join(0), 0);
        row(x);
    }

    @Says(in = 24, words = "The i-th of the row that was JOINED last: its THING (60: none)")
    static void rowOfTheLast() {
        AshCity x = withThings(withFinds(1, 2, 3), 3, 1);
        join(x, 0, 1, 2);
        row(x, 1, NO_THING, 0);
        x.gone(0, true);
        lost(x, 0, 2);
        row(x, 1, NO_THING, 0);
        join(x, 2);
        row(x, NO_THING);
    }

    @Says(in = 24, words = "NONE: there is none such")
    static void joinedNone() {
        AshCity x = withThings(withFinds(1, 2), 1);
        Due.none("nothing was joined", x.joined(0));
        join(x, 0, 1);
        int[] wrong = {-1, 2, 8, 60, Integer.MIN_VALUE, Integer.MAX_VALUE};
        for (int i : wrong) {
            Due.none("joined " + i, x.joined(i));
        }
        join(x, 0);
        Due.none("of a row before", x.joined(1));
        AshCity full = withFinds(1, 2, 3, 4, 5, 6, 7, 8);
        join(full, upTo(8));
        Due.is("the eighth", full.joined(7), NO_THING);
        Due.none("no ninth", full.joined(8));
    }

    @Says(in = 25, words = "Of FINDS by the first n bytes of the tape (0 to 100; empty then)")
    static void lostByBytes() {
        Edges.range("n", 0, 100, n -> {
            AshCity y = withFinds(new int[110]);
            Due.feedBytes(y, upTo(110));
            return y.lost(n, 0) == Math.max(n, 0);
        });
        AshCity x = withThings(withFinds(1, 2), 1);
        Due.feedBytes(x, 1, 0, 99);
        Due.is("two of three bytes", x.lost(2, 0), 1);
        Due.is("empty then, what stood behind, too", x.count(14), 0);
        Due.feedBytes(x, 1);
        Due.is("none of a tape that has some", x.lost(0, 0), 0);
        Due.is("empty then", x.count(14), 0);
    }

    @Says(in = 25, words = "(NONE: none would make one not LOST)")
    static void lostForEver() {
        AshCity x = withThings(withFinds(1, 2), 2);
        Due.none("no museum has it", lost(x, 1, 0));
        Due.is("empty then", x.count(14), 0);
        Due.none("none is lost", lost(x, 1, 1));
        Due.none("none was told", x.lost(0, 1));
        x.thing(9, 1, 1);
        Due.none("one of another kind", lost(x, 1, 0));
        x.thing(9, 0, 1);
        x.gone(2, true);
        Due.is("one of its kind", lost(x, 1, 0), 9);
        Due.none("without things", lost(withFinds(0), 1, 0));
    }

    @Says(in = 25, words = "-2: no such FINDS, one twice")
    static void lostWrongFinds() {
        AshCity x = withFinds(1, 2);
        int[][] wrong = {{2}, {0, 2}, {255}, {0, 0}, {1, 0, 1}};
        for (int what = 0; what < 2; what++) {
            for (int[] w : wrong) {
                Due.is("lost " + java.util.Arrays.toString(w), lost(x, what, w), -2);
                Due.is("empty then", x.count(14), 0);
            }
        }
        AshCity full = withFinds(new int[150]);
        int[] hundred = upTo(100);
        hundred[99] = 149;
        Due.is("a hundred", lost(full, 0, hundred), 100);
        hundred[99] = 150;
        Due.is("the hundredth is none", lost(full, 0, hundred), -2);
        hundred[99] = 0;
        Due.is("the hundredth is the first", lost(full, 0, hundred), -2);
    }

    @Says(in = 25, words = "NONE: no such ones")
    static void lostNoSuchOnes() {
        AshCity x = withFinds(new int[101]);
        Due.feedBytes(x, upTo(101));
        int[][] wrong = {{-1, 0}, {101, 0}, {1, -1}, {1, 2}, {Integer.MIN_VALUE, 0}, {Integer.MAX_VALUE, 0}, {1, Integer.MIN_VALUE}, {1, Integer.MAX_VALUE}};
        for (int[] w : wrong) {
            Due.none("lost " + java.util.Arrays.toString(w), x.lost(w[0], w[1]));
            Due.is("the tape stays", x.count(14), 120);
        }
        Due.is("then they are told", x.lost(100, 0), 100);
    }

    @Says(in = 25, words = "it has not so many (the tape stays)")
    static void lostShortTape() {
        AshCity x = withFinds(new int[21]);
        Due.none("of an empty tape", x.lost(1, 0));
        Due.feedBytes(x, upTo(20));
        Due.none("21 of 20", x.lost(21, 0));
        Due.is("the tape stays", x.count(14), 20);
        Due.is("20 of 20", x.lost(20, 0), 20);
    }
}
