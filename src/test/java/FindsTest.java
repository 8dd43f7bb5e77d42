/** Promises 15 to 19 and 41: find, may, sure, nowhere, barred, beside. */
public final class FindsTest {
    public static void main(String[] args) {
        wrongFinds();
        limit();
        weeksAndLayers();
        handAndKind();
        numbers();
        letters();
        known();
        sureAndNowhere();
        placesToldLater();
        barred();
        beside();
        Due.end();
    }

    private static AshCity city(int week) {
        AshCity x = new AshCity();
        x.place(0, 0, 1);
        x.place(1, 8, 9);
        x.place(2, 16, 17);
        x.now(week);
        return x;
    }

    private static void wrongFinds() {
        AshCity x = city(50);
        int[][] wrong = {{-1, 0, 0, 0, 0, 0, 0, 0}, {8, 0, 0, 0, 0, 0, 0, 0}, {0, -1, 0, 0, 0, 0, 0, 0}, {0, 5, 4, 0, 0, 0, 0, 0},
            {0, 50, 51, 0, 0, 0, 0, 0}, {0, 10, 30, 0, 0, 0, 0, 0}, {0, 0, 0, -1, 0, 0, 0, 0}, {0, 0, 0, 100, 0, 0, 0, 0},
            {0, 0, 0, 0, -1, 0, 0, 0}, {0, 0, 0, 0, 0, 8, 0, 0}, {0, 0, 0, 0, 3, 2, 0, 0}, {0, 0, 0, 0, 0, 0, -1, 0}, {0, 0, 0, 0, 0, 0, 8, 0},
            {0, 0, 0, 0, 0, 0, 0, -1}, {0, 0, 0, 0, 0, 0, 0, 256}, {0, Integer.MIN_VALUE, Integer.MAX_VALUE, 0, 0, 0, 0, 0}};
        for (int[] w : wrong) {
            Due.is("find " + java.util.Arrays.toString(w), x.find(w[0], w[1], w[2], w[3], w[4], w[5], w[6], w[7]), -1);
        }
        Due.is("none", x.count(6), 0);
        Due.is("twenty weeks", x.find(7, 31, 50, 99, 0, 7, 7, 255), 0);
        Due.is("may of none", x.may(1, 50), -1);
        Due.is("may -1", x.may(-1, 50), -1);
        Due.is("may t -1", x.may(0, -1), -1);
        Due.is("may t 10000", x.may(0, 10000), -1);
        Due.is("may t 9999", x.may(0, 9999), 0);
        Due.is("sure -1", x.sure(-1), -1);
        Due.is("sure 10000", x.sure(10000), -1);
        Due.is("nowhere 0", x.nowhere(0, 9999), 0);
        Due.is("nowhere -1", x.nowhere(-1, 50), -1);
        Due.is("nowhere 10000", x.nowhere(0, 10000), -1);
        Due.is("nowhere far", x.nowhere(Integer.MAX_VALUE, 50), -1);
    }

    private static void limit() {
        AshCity x = new AshCity();
        for (int i = 0; i < 150; i++) {
            Due.is("find " + i, x.find(0, 0, 0, 0, 0, 0, 0, 0), i);
        }
        Due.is("a 151st", x.find(0, 0, 0, 0, 0, 0, 0, 0), -1);
        Due.is("150", x.count(6), 150);
        Due.is("nowhere 149", x.nowhere(149, 0), 149);
    }

    private static void weeksAndLayers() {
        AshCity x = city(50);
        x.dig(0, 1, 1, 2, 3, 4, 10, 20);
        int[][] rows = {{9, 9, 3, 3, 0}, {9, 10, 3, 3, 1}, {20, 20, 3, 3, 1}, {20, 30, 4, 4, 1}, {21, 30, 3, 3, 0}, {5, 24, 0, 7, 1},
            {10, 20, 0, 2, 0}, {10, 20, 0, 3, 1}, {10, 20, 4, 7, 1}, {10, 20, 5, 7, 0}};
        for (int i = 0; i < rows.length; i++) {
            int[] r = rows[i];
            x.find(0, r[0], r[1], 0, r[2], r[3], 0, 0);
            Due.is("may " + java.util.Arrays.toString(r), x.may(i, 50), r[4]);
        }
        x.dig(0, 0, 0, 17, 0, 3, 10, 10);
        Due.is("of all three", x.may(1, 50), 7);
        Due.is("still one", x.may(2, 50), 1);
    }

    private static void handAndKind() {
        AshCity x = city(50);
        x.dig(1, 0, 0, 1, 0, 7, 10, 20);
        x.dig(2, 2, 0, 1, 0, 7, 10, 20);
        x.find(0, 10, 20, 0, 0, 7, 0, 0);
        x.find(1, 10, 20, 0, 0, 7, 0, 0);
        x.find(2, 10, 20, 0, 0, 7, 0, 0);
        Due.is("another hand", x.may(0, 50), 0);
        Due.is("its own hand", x.may(1, 50), 1);
        Due.is("a refill", x.may(2, 50), 0);
    }

    private static void numbers() {
        AshCity x = city(50);
        x.dig(0, 0, 0, 17, 0, 7, 10, 20);
        x.means(0, 5, 0, 0, 12);
        x.means(0, 5, 1, 13, 13);
        x.means(2, 5, 2, 30, 40);
        x.means(1, 6, 2, 0, 9999);
        x.find(0, 10, 12, 5, 0, 0, 0, 0);
        x.find(0, 12, 13, 5, 0, 0, 0, 0);
        x.find(0, 14, 33, 5, 0, 0, 0, 0);
        x.find(0, 12, 12, 6, 0, 0, 0, 0);
        x.find(0, 12, 12, 7, 0, 0, 0, 0);
        Due.is("by one meaning", x.may(0, 50), 1);
        Due.is("by both", x.may(1, 50), 3);
        Due.is("it means a place only when nobody digs", x.may(2, 50), 0);
        Due.is("by another numbering", x.may(3, 50), 4);
        Due.is("a number that means nothing", x.may(4, 50), 0);
        x.dig(1, 0, 0, 1, 0, 7, 10, 20);
        x.find(1, 12, 13, 5, 0, 0, 0, 0);
        Due.is("it means another place, in which that hand did not dig", x.may(5, 50), 1);
        Due.rules(x, 12, 12, "n0");
        Due.is("not by that numbering in week 12", x.may(3, 50), 0);
        Due.is("week 13 is free", x.may(1, 50), 3);
        Due.rules(x, 13, 13, "n3");
        Due.is("nor in week 13", x.may(1, 50), 1);
    }

    private static void letters() {
        AshCity x = city(50);
        x.dig(3, 0, 0, 17, 0, 7, 10, 20);
        for (int n = 0; n < 4; n++) {
            x.means(n, 9, n % 3, 0, 9999);
        }
        x.find(3, 15, 15, 9, 0, 0, 4, 77);
        Due.is("by all", x.may(0, 50), 7);
        Due.rules(x, 0, 9999, "n0(w=15&h=3&k=4&m=77&p=0)");
        Due.is("place 0 alone goes by n0; others by all", x.may(0, 50), 7);
        Due.rules(x, 0, 9999, "n3(p=1|p=2);n1(p=2)");
        Due.is("of kind 1 by 3 alone, of kind 2 by 1 and 3", x.may(0, 50), 1);
        Due.rules(x, 0, 9999, "n2(w+h+k+m=99&p=2)");
        Due.is("of kind 2 by 2 too", x.may(0, 50), 5);
    }

    private static void known() {
        AshCity x = city(10);
        x.dig(0, 0, 0, 1, 0, 0, 1, 1);
        x.now(12);
        x.find(0, 1, 1, 0, 0, 0, 0, 0);
        x.now(14);
        x.dig(0, 0, 8, 9, 0, 0, 1, 1);
        x.now(16);
        x.strike(0);
        Due.is("told behind 11", x.may(0, 11), -1);
        Due.is("on 12", x.may(0, 12), 1);
        Due.is("on 14", x.may(0, 14), 3);
        Due.is("on 15", x.may(0, 15), 3);
        Due.is("on 16", x.may(0, 16), 2);
        Due.is("sure on 11", x.sure(11), 0);
        Due.is("sure on 12", x.sure(12), 1);
        Due.is("sure on 15", x.sure(15), 0);
        Due.is("sure on 9999", x.sure(9999), 1);
        x.strike(1);
        Due.is("nowhere on 11", x.nowhere(0, 11), -1);
        Due.is("nowhere on 15", x.nowhere(0, 15), -1);
        Due.is("nowhere on 16", x.nowhere(0, 16), 0);
    }

    private static void sureAndNowhere() {
        AshCity x = city(50);
        x.dig(0, 0, 0, 1, 0, 7, 10, 10);
        x.dig(0, 0, 0, 9, 0, 7, 11, 11);
        int[] weeks = {10, 11, 12, 10, 12, 11, 12};
        for (int w : weeks) {
            x.find(0, w, w, 0, 0, 0, 0, 0);
        }
        Due.is("two sure", x.sure(50), 2);
        Due.is("nowhere 0", x.nowhere(0, 50), 2);
        Due.is("nowhere 1", x.nowhere(1, 50), 4);
        Due.is("nowhere 2", x.nowhere(2, 50), 6);
        Due.is("nowhere 3", x.nowhere(3, 50), -1);
    }

    private static void placesToldLater() {
        AshCity x = new AshCity();
        x.dig(0, 0, 0, 63, 0, 7, 0, 0);
        x.find(0, 0, 0, 0, 0, 0, 0, 0);
        Due.is("no place yet", x.may(0, 0), 0);
        for (int i = 0; i < 30; i++) {
            x.place(0, i, i);
        }
        Due.is("all thirty", x.may(0, 0), (1 << 30) - 1);
        x.dig(1, 0, 29, 31, 0, 7, 0, 0);
        x.find(1, 0, 0, 0, 0, 0, 0, 0);
        Due.is("the last one", x.may(1, 0), 1 << 29);
    }

    private static void barred() {
        AshCity x = city(50);
        x.dig(3, 0, 0, 0, 0, 5, 10, 20);
        x.dig(4, 1, 0, 0, 5, 6, 11, 20);
        x.dig(4, 2, 0, 0, 7, 7, 11, 20);
        Due.is("without rules", x.barred(0), 0);
        Due.is("without rules", x.barred(1), 0);
        Due.is("refill", x.barred(2), -1);
        x.dig(4, 1, 0, 0, 5, 6, 11, 20);
        Due.is("the last one", x.barred(3), 0);
        Due.is("no such one", x.barred(4), -1);
        Due.is("no such one", x.barred(-1), -1);
        Due.rules(x, 10, 10, "f5");
        Due.is("down to 5 is right", x.barred(0), 0);
        Due.is("not in force", x.barred(1), 0);
        Due.rules(x, 0, 9999, "f4(w=10&h=3&k=0&m=0&p<0);f5(w=11&h=4&k=1&m=0&p<0)");
        Due.is("below 4", x.barred(0), 1);
        Due.is("below 5", x.barred(1), 1);
        x.strike(1);
        Due.is("struck, too", x.barred(1), 1);
        Due.rules(x, 0, 9999, "f7");
        Due.is("7 bars nothing", x.barred(1), 0);
    }

    private static void beside() {
        AshCity x = city(50);
        x.dig(1, 0, 0, 9, 0, 7, 10, 10);
        x.means(0, 5, 0, 0, 9999);
        x.means(1, 5, 1, 0, 9999);
        Due.rules(x, 0, 9999, "n0(h=1);n1(h<3);n2(h=3)");
        x.find(1, 10, 10, 5, 0, 0, 0, 0);
        x.find(2, 10, 10, 5, 0, 0, 0, 0);
        Due.is("by its own hand", x.may(0, 50), 3);
        Due.is("not sure", x.sure(50), 0);
        Due.is("beside 1", x.beside(1), 0);
        Due.is("beside 0", x.beside(0), 1);
        Due.is("beside 3", x.beside(3), 0);
        Due.is("beside 7: by all", x.beside(7), 0);
        Due.is("beside 8", x.beside(8), -1);
        Due.is("beside -1", x.beside(-1), -1);
        x.strike(0);
        Due.is("as known now", x.beside(0), 0);
    }
}
