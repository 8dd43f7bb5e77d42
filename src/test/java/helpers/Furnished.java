import java.util.ArrayList;
import java.util.List;

/** A city with something of all that there is, and all that can be seen of it; both together in some 280 calls. */
public final class Furnished {
    /** What the tape has: it stands at its beginning. */
    public static final String TEXT = "v77;n2";
    public static final int WEEK = 22;

    private static final int[] CELLS = {0, 1, 2, 9, 10, 11, 12, 13, 25, 38, 39};

    private Furnished() {
    }

    /** 10 by 4 CELLS, NOW 22, 3 PLACES, 3 DIGS (1 is STRUCK, 2 a REFILL), 3 FINDS, 3 THINGS (2 is GONE), 2 WALLS, 4 DRAWINGS. */
    public static AshCity city() {
        AshCity x = new AshCity();
        x.city(10, 4);
        x.now(20);
        x.place(0, 0, 11);
        x.place(1, 2, 12);
        x.place(2, 38, 39);
        x.dig(0, 0, 0, 12, 0, 3, 10, 15);
        x.dig(1, 1, 2, 39, 2, 5, 12, 18);
        x.dig(0, 2, 0, 0, 0, 0, 16, 16);
        findsAndThings(x);
        wallsAndAsh(x);
        x.now(WEEK);
        x.strike(1);
        Due.feedBytes(x, 0, 1);
        x.join(2);
        Due.feed(x, TEXT);
        return x;
    }

    private static void findsAndThings(AshCity x) {
        x.means(0, 5, 0, 0, 9999);
        x.means(1, 5, 1, 0, 9999);
        Due.rules(x, 0, 9999, "n0;n1(h=0);v10;v20(k=1);a5;f2(k=1)");
        Due.rules(x, 13, 14, "x0.0;n3(k=3)");
        x.find(0, 10, 12, 5, 0, 1, 0, 3);
        x.find(0, 12, 14, 0, 0, 2, 0, 1);
        x.find(1, 19, 19, 0, 3, 3, 0, 0);
        x.thing(0, 0, 3);
        x.thing(1, 0, 1);
        x.thing(2, 0, 7);
        x.gone(2, true);
    }

    private static void wallsAndAsh(AshCity x) {
        x.wall(0, 100);
        x.wall(1, 77);
        x.draw(0, 5, 3);
        x.draw(0, 9, 1);
        x.copy(0, 10);
        x.draw(0, 12, 3);
        x.work(0, 5, 50);
        x.work(1, 3, 40);
        x.ash(0, 10, 20);
        x.ash(1, 0, 9);
        x.above(0, 1);
        x.height(2, 1);
        x.hollow(11, 0);
        x.hollow(25, 0);
        x.sign(1, 1, 0, 5);
        x.sign(1, 1, 0, 5);
        x.sign(2, 0, 0, 5);
        x.sign(2, 0, 0, 5);
    }

    /** All that can be seen without use of the tape. */
    public static List<Integer> seen(AshCity x) {
        List<Integer> all = new ArrayList<>();
        for (int i = 0; i < 16; i++) {
            all.add(x.count(i));
        }
        for (int i = 20; i < 23; i++) {
            all.add(x.count(i));
        }
        groundOf(x, all);
        rulesAndFindsOf(x, all);
        wallsAndAshOf(x, all);
        return all;
    }

    private static void groundOf(AshCity x, List<Integer> all) {
        for (int c = 0; c < 40; c++) {
            all.add(x.placeOf(c));
        }
        for (int c : CELLS) {
            all.add(x.ground(c, 0, WEEK, WEEK));
            all.add(x.ground(c, 2, WEEK, WEEK));
            all.add(x.ground(c, 5, WEEK, 20));
        }
        for (int l = 0; l < 8; l++) {
            all.add(x.first(2, l, WEEK, 20));
        }
    }

    private static void rulesAndFindsOf(AshCity x, List<Integer> all) {
        for (int k = 0; k < 4; k++) {
            all.add(x.meaning(k, 5, 9));
            all.add(x.meaning(k, 1, 9));
            all.add(x.number(k, 9, 0, 1, 0, 0));
            all.add(x.number(k, 13, 1, 0, 0, -1));
        }
        for (int i = 0; i < 3; i++) {
            all.add(x.may(i, 20));
            all.add(x.may(i, WEEK));
            all.add(x.barred(i));
            all.add(x.joined(i));
            for (int k = 0; k < 4; k++) {
                all.add(x.like(i, k));
            }
        }
        for (int t = 20; t <= WEEK; t++) {
            all.add(x.sure(t));
            all.add(x.nowhere(0, t));
        }
        all.add(x.beside(0));
        all.add(x.beside(1));
    }

    private static void wallsAndAshOf(AshCity x, List<Integer> all) {
        for (int what = 0; what < 4; what++) {
            all.add(x.stood(0, 0, WEEK, what));
            all.add(x.stood(0, 1, WEEK, what));
            all.add(x.stood(1, 0, WEEK, what));
            all.add(x.saves(what));
            all.add(x.who(0, what));
            all.add(x.best(4 * what));
        }
        for (int l = 0; l < 8; l++) {
            all.add(x.hour(l, 0));
            all.add(x.hour(l, 1));
        }
        for (int i = 0; i < 3; i++) {
            all.add(x.way(i));
        }
    }

    /** What the tape still tells; it is taken by that. */
    public static List<Integer> tapeOf(AshCity x) {
        List<Integer> all = new ArrayList<>();
        all.add(x.rules(0, 9999, TEXT.length()));
        all.add(x.number(1, 9, 0, 0, 0, -1));
        all.add(x.count(14));
        return all;
    }
}
