/** Promises 1 to 9: a new object, city, now, place, placeOf, dig, strike, ground, first. */
public final class GroundTest {
    public static void main(String[] args) {
        newObject();
        city();
        now();
        place();
        dig();
        wrongDigs();
        strike();
        ground();
        order();
        wrongQuestions();
        Due.end();
    }

    private static void newObject() {
        AshCity x = new AshCity();
        int[] due = {0, 8, 8, 0, 0, 0, 0, 0, 0, 0, 0, 0, 0, 0, 0, 0};
        for (int i = 0; i < due.length; i++) {
            Due.is("new: count " + i, x.count(i), due[i]);
        }
        Due.is("new: last cell", x.ground(63, 7, 0, 0), 0);
        Due.is("new: no cell 64", x.ground(64, 7, 0, 0), -1);
        Due.is("new: nothing joined", x.joined(0), -1);
    }

    private static void city() {
        AshCity x = new AshCity();
        int[][] wrong = {{3, 8}, {8, 3}, {11, 8}, {8, 11}, {-4, -4}, {Integer.MIN_VALUE, 4}, {4, Integer.MAX_VALUE}};
        for (int[] w : wrong) {
            Due.no("city " + w[0] + " " + w[1], x.city(w[0], w[1]));
        }
        Due.is("still 8 wide", x.count(1), 8);
        Due.yes("city 4 10", x.city(4, 10));
        Due.is("W", x.count(1), 4);
        Due.is("H", x.count(2), 10);
        Due.is("cell 39", x.ground(39, 0, 0, 0), 0);
        Due.is("cell 40", x.ground(40, 0, 0, 0), -1);
        Due.yes("city 10 10", x.city(10, 10));
        Due.yes("cell 99 is there", x.height(99, 0));
        Due.yes("city 10 4", x.city(10, 4));
        Due.no("cell 40 is gone", x.height(40, 0));
        refusedWhere();
        heightsAnew();
    }

    private static void refusedWhere() {
        AshCity x = new AshCity();
        x.place(0, 0, 0);
        Due.no("city with a place", x.city(8, 8));
        x = new AshCity();
        x.dig(0, 0, 0, 0, 0, 0, 0, 0);
        Due.no("city with a dig", x.city(8, 8));
        x.strike(0);
        Due.no("city with a struck dig", x.city(8, 8));
        x = new AshCity();
        x.hollow(0, 0);
        Due.no("city with a hollow", x.city(8, 8));
        x = new AshCity();
        x.find(0, 0, 0, 1, 0, 0, 0, 0);
        x.thing(0, 0, 0);
        x.above(0, 1);
        Due.yes("city with a find, a thing and a cut", x.city(5, 6));
    }

    private static void heightsAnew() {
        AshCity x = new AshCity();
        x.ash(1, 0, 0);
        for (int c = 0; c < 64; c++) {
            x.height(c, 0);
        }
        x.city(5, 5);
        x.hollow(12, 0);
        Due.is("heights are 8 again", x.way(0), 2);
    }

    private static void now() {
        AshCity x = new AshCity();
        Due.yes("now 0", x.now(0));
        Due.no("now -1", x.now(-1));
        Due.no("now 10000", x.now(10000));
        Due.yes("now 7", x.now(7));
        Due.yes("now 7 again", x.now(7));
        Due.no("now 6", x.now(6));
        Due.is("NOW", x.count(0), 7);
        Due.yes("now 9999", x.now(9999));
        Due.is("NOW at the end", x.count(0), 9999);
    }

    private static void place() {
        AshCity x = new AshCity();
        x.city(10, 4);
        Due.is("place over two rows", x.place(2, 1, 12), 0);
        Due.is("placeOf 1", x.placeOf(1), 0);
        Due.is("placeOf 2", x.placeOf(2), 0);
        Due.is("placeOf 11", x.placeOf(11), 0);
        Due.is("placeOf 12", x.placeOf(12), 0);
        Due.is("placeOf 0", x.placeOf(0), -1);
        Due.is("placeOf 3", x.placeOf(3), -1);
        Due.is("placeOf 10", x.placeOf(10), -1);
        Due.is("placeOf 13", x.placeOf(13), -1);
        Due.is("placeOf -1", x.placeOf(-1), -1);
        Due.is("placeOf 40", x.placeOf(40), -1);
        int[][] wrong = {{-1, 5, 5}, {3, 5, 5}, {0, -1, 5}, {0, 5, 40}, {0, 6, 5}, {0, 15, 6}, {0, 9, 10}, {0, 12, 23}, {0, 0, 39},
            {0, 22, 3}, {0, Integer.MIN_VALUE, 3}, {0, 3, Integer.MAX_VALUE}};
        for (int[] w : wrong) {
            Due.is("place " + w[0] + " " + w[1] + " " + w[2], x.place(w[0], w[1], w[2]), -1);
        }
        Due.is("only one so far", x.count(3), 1);
        Due.is("place beside it", x.place(0, 3, 3), 1);
        thirty();
    }

    private static void thirty() {
        AshCity x = new AshCity();
        for (int i = 0; i < 30; i++) {
            Due.is("place " + i, x.place(i % 3, i, i), i);
        }
        Due.is("a 31st place", x.place(0, 40, 40), -1);
        Due.is("30 are there", x.count(3), 30);
        Due.is("the last one", x.placeOf(29), 29);
    }

    private static void dig() {
        AshCity x = new AshCity();
        x.now(10);
        Due.is("dig of one cell, one layer, one week", x.dig(7, 0, 63, 63, 0, 0, 10, 10), 0);
        Due.is("it opened", x.ground(63, 0, 10, 10), 2);
        Due.is("not before", x.ground(63, 0, 9, 10), 0);
        Due.is("not below", x.ground(63, 1, 10, 10), 0);
        Due.is("tunnel of all", x.dig(0, 1, 0, 63, 0, 7, 0, 10), 1);
        for (int i = 2; i < 100; i++) {
            Due.is("dig " + i, x.dig(1, 2, 0, 0, 3, 3, 0, 0), i);
        }
        Due.is("a 101st dig", x.dig(1, 2, 0, 0, 3, 3, 0, 0), -1);
        Due.is("100 are there", x.count(4), 100);
        Due.no("strike 100", x.strike(100));
        Due.yes("strike 99", x.strike(99));
    }

    private static void wrongDigs() {
        AshCity x = new AshCity();
        x.now(10);
        int[][] wrong = {{-1, 1, 0, 0, 0, 0, 0, 0}, {8, 1, 0, 0, 0, 0, 0, 0}, {0, -1, 0, 0, 0, 0, 0, 0}, {0, 3, 0, 0, 0, 0, 0, 0},
            {0, 1, -1, 0, 0, 0, 0, 0}, {0, 1, 0, 64, 0, 0, 0, 0}, {0, 1, 1, 8, 0, 0, 0, 0}, {0, 1, 8, 1, 0, 0, 0, 0},
            {0, 1, 0, 0, -1, 0, 0, 0}, {0, 1, 0, 0, 0, 8, 0, 0}, {0, 1, 0, 0, 2, 1, 0, 0}, {0, 0, 0, 0, 1, 1, 0, 0},
            {0, 1, 0, 0, 0, 0, -1, 0}, {0, 1, 0, 0, 0, 0, 0, 11}, {0, 1, 0, 0, 0, 0, 5, 4}, {0, 1, 0, 0, 0, 0, 11, 11}};
        for (int[] w : wrong) {
            Due.is("dig " + java.util.Arrays.toString(w), x.dig(w[0], w[1], w[2], w[3], w[4], w[5], w[6], w[7]), -1);
        }
        Due.is("none is there", x.count(4), 0);
        Due.is("a refill may begin below", x.dig(0, 2, 0, 0, 1, 1, 0, 0), 0);
    }

    private static void strike() {
        AshCity x = new AshCity();
        x.now(5);
        x.dig(0, 0, 0, 0, 0, 0, 1, 2);
        Due.no("strike -1", x.strike(-1));
        Due.no("strike 1", x.strike(1));
        x.now(8);
        Due.yes("strike 0", x.strike(0));
        x.now(9);
        Due.no("strike 0 again", x.strike(0));
        Due.is("known before it was told", x.ground(0, 0, 2, 4), 0);
        Due.is("known when told", x.ground(0, 0, 2, 5), 2);
        Due.is("known before it was struck", x.ground(0, 0, 2, 7), 2);
        Due.is("not known when struck", x.ground(0, 0, 2, 8), 0);
        Due.is("first before", x.first(0, 0, 2, 7), 0);
        Due.is("first when struck", x.first(0, 0, 2, 8), -1);
        x.dig(0, 0, 0, 0, 0, 0, 1, 2);
        x.strike(1);
        Due.is("told and struck in one week", x.ground(0, 0, 2, 9), 0);
    }

    private static void ground() {
        AshCity x = new AshCity();
        x.now(100);
        x.dig(0, 2, 0, 0, 0, 7, 1, 1);
        Due.is("what is kept is not refilled", x.ground(0, 0, 1, 100), 0);
        x.dig(0, 1, 0, 0, 0, 0, 2, 2);
        Due.is("tunnelled", x.ground(0, 0, 2, 100), 1);
        x.dig(0, 2, 0, 0, 0, 0, 3, 3);
        Due.is("refilled", x.ground(0, 0, 3, 100), 3);
        x.dig(0, 1, 0, 0, 0, 0, 4, 4);
        Due.is("a tunnel through what was refilled", x.ground(0, 0, 4, 100), 3);
        x.dig(0, 0, 0, 0, 0, 0, 5, 5);
        Due.is("opened after all", x.ground(0, 0, 5, 100), 2);
        x.dig(0, 1, 0, 0, 0, 0, 6, 6);
        Due.is("a tunnel through what is open", x.ground(0, 0, 6, 100), 2);
        x.dig(0, 2, 0, 0, 0, 0, 7, 9);
        Due.is("refilled again", x.ground(0, 0, 7, 100), 3);
        x.dig(0, 0, 0, 0, 0, 0, 8, 8);
        x.dig(0, 0, 0, 0, 0, 0, 8, 8);
        Due.is("opened twice", x.ground(0, 0, 9999, 9999), 2);
        Due.is("first by the tunnel", x.first(0, 0, 9999, 9999), 1);
        Due.is("nobody in week 1", x.first(0, 0, 1, 100), -1);
    }

    private static void order() {
        AshCity x = new AshCity();
        x.now(100);
        x.dig(0, 0, 0, 0, 0, 0, 20, 20);
        x.dig(0, 2, 0, 0, 0, 0, 10, 10);
        x.dig(0, 1, 0, 0, 0, 0, 5, 30);
        x.dig(0, 2, 0, 0, 0, 0, 20, 20);
        Due.is("week 5", x.ground(0, 0, 5, 100), 1);
        Due.is("week 10", x.ground(0, 0, 10, 100), 3);
        Due.is("week 20: by numbers", x.ground(0, 0, 20, 100), 3);
        Due.is("first by weeks", x.first(0, 0, 20, 100), 2);
        x.now(101);
        x.dig(0, 0, 0, 0, 0, 0, 5, 5);
        Due.is("of one week by numbers", x.ground(0, 0, 5, 101), 2);
        Due.is("first of one week by numbers", x.first(0, 0, 5, 101), 2);
        x.strike(2);
        Due.is("first with the tunnel struck", x.first(0, 0, 5, 101), 4);
    }

    private static void wrongQuestions() {
        AshCity x = new AshCity();
        int[][] wrong = {{-1, 0, 0, 0}, {64, 0, 0, 0}, {0, -1, 0, 0}, {0, 8, 0, 0}, {0, 0, -1, 0}, {0, 0, 10000, 0}, {0, 0, 0, -1},
            {0, 0, 0, 10000}, {Integer.MAX_VALUE, 0, 0, 0}};
        x.dig(0, 0, 0, 63, 0, 7, 0, 0);
        for (int[] w : wrong) {
            Due.is("ground " + java.util.Arrays.toString(w), x.ground(w[0], w[1], w[2], w[3]), -1);
            Due.is("first " + java.util.Arrays.toString(w), x.first(w[0], w[1], w[2], w[3]), -1);
        }
    }
}
