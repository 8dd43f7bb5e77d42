/** Promises 42 and 43: check, count. */
public final class OfficeTest {
    public static void main(String[] args) {
        checkOfNothing();
        check();
        asKnownNow();
        count();
        Due.end();
    }

    private static void checkOfNothing() {
        AshCity x = new AshCity();
        Due.is("nothing is right", x.check(0), -1);
        Due.is("not so many", x.check(1), -2);
        Due.is("check -1", x.check(-1), -2);
        Due.is("check far", x.check(Integer.MAX_VALUE), -2);
        Due.is("check far below", x.check(Integer.MIN_VALUE), -2);
        Due.feedNumbers(x, 0, 0, 0);
        Due.is("two need 24 bytes", x.check(2), -2);
        Due.is("the tape stays", x.count(14), 20);
        Due.is("one too much", x.check(1), 0);
        Due.is("empty then", x.count(14), 0);
        Due.feedNumbers(x, 1);
        Due.is("right, and empty then", x.check(0), -1);
        Due.is("empty then", x.count(14), 0);
    }

    private static AshCity dug() {
        AshCity x = new AshCity();
        x.now(9);
        x.dig(0, 0, 63, 63, 0, 1, 3, 3);
        x.dig(0, 1, 5, 5, 7, 7, 3, 3);
        x.dig(0, 2, 63, 63, 0, 0, 4, 4);
        return x;
    }

    private static void told(String what, int due, int n, int... numbers) {
        AshCity x = dug();
        Due.feedNumbers(x, numbers);
        Due.is(what, x.check(n), due);
        Due.is(what + ": the tape", x.count(14), due == -2 ? (numbers.length + 4) / 5 * 20 : 0);
    }

    private static void check() {
        told("right", -1, 3, 5, 7, 1, 63, 0, 3, 63, 1, 2);
        told("some are lacking", 6, 2, 5, 7, 1, 63, 0, 3, 63, 1, 2);
        told("all are lacking", 0, 0, 5, 7, 1);
        told("a wrong cell", 3, 3, 5, 7, 1, 62, 0, 3, 63, 1, 2);
        told("a wrong layer", 1, 3, 5, 6, 1, 63, 0, 3, 63, 1, 2);
        told("a wrong state", 8, 3, 5, 7, 1, 63, 0, 3, 63, 1, 3);
        told("the first that is wrong", 4, 3, 5, 7, 1, 63, 1, 2, 63, 0, 3);
        told("one too much", 9, 4, 5, 7, 1, 63, 0, 3, 63, 1, 2, 63, 2, 1);
        told("one too much, of zeros", 9, 4, 5, 7, 1, 63, 0, 3, 63, 1, 2, 0, 0, 0);
        told("below 0", 0, 1, -5, 7, 1);
        told("a high byte", 2, 3, 5, 7, 1 + (1 << 24), 63, 0, 3, 63, 1, 2);
        told("a second byte", 0, 3, 5 + (1 << 8), 7, 1, 63, 0, 3, 63, 1, 2);
        told("a third byte", 4, 3, 5, 7, 1, 63, 1 << 16, 3, 63, 1, 2);
        told("not so many", -2, 4, 5, 7, 1, 63, 0, 3, 63, 1);
    }

    private static void asKnownNow() {
        AshCity x = dug();
        x.now(10);
        x.strike(1);
        Due.feedNumbers(x, 63, 0, 3, 63, 1, 2);
        Due.is("with a dig struck", x.check(2), -1);
        AshCity y = new AshCity();
        y.dig(0, 0, 0, 63, 0, 7, 0, 0);
        int[] numbers = new int[99];
        for (int i = 0; i < 33; i++) {
            numbers[3 * i] = i / 8;
            numbers[3 * i + 1] = i % 8;
            numbers[3 * i + 2] = 2;
        }
        Due.feedNumbers(y, numbers);
        Due.is("33 of them, by cells, then layers", y.check(33), 99);
        Due.feedNumbers(y, numbers);
        Due.is("34 can't be", y.check(34), -2);
        Due.is("the tape stays", y.count(14), 400);
    }

    private static void count() {
        AshCity x = new AshCity();
        x.city(9, 7);
        x.now(6);
        x.place(0, 0, 0);
        x.dig(0, 0, 0, 0, 0, 0, 0, 0);
        x.dig(0, 0, 0, 0, 0, 0, 0, 0);
        Due.rules(x, 0, 9, "n1;n2;n3");
        Due.rules(x, 0, 9, "n1");
        for (int i = 0; i < 3; i++) {
            x.find(0, 0, 0, 0, 0, 0, 0, 0);
        }
        for (int i = 0; i < 4; i++) {
            x.thing(0, 0, 0);
        }
        for (int i = 0; i < 5; i++) {
            x.wall(0, 1);
            x.work(0, 1, 1);
        }
        x.work(0, 1, 1);
        for (int i = 0; i < 7; i++) {
            x.draw(0, 0, 0);
            x.above(0, 1);
        }
        x.above(0, 1);
        for (int i = 0; i < 10; i++) {
            x.hollow(0, 0);
            x.sign(0, 0, 0, 0);
            x.means(0, 1, 0, 0, 0);
        }
        x.sign(0, 0, 0, 0);
        x.means(0, 1, 0, 0, 0);
        x.means(0, 1, 0, 0, 0);
        x.feed(0, 0, 0, 0, 0);
        int[] due = {6, 9, 7, 1, 2, 2, 3, 4, 5, 7, 8, 10, 11, 6, 20, 12, -1, -1, -1, -1, 3, 1, -1};
        for (int i = 0; i < due.length; i++) {
            Due.is("count " + i, x.count(i), due[i]);
        }
        int[] none = {-1, 39, 40, 100, Integer.MIN_VALUE, Integer.MAX_VALUE};
        for (int i : none) {
            Due.is("count " + i, x.count(i), -1);
        }
    }
}
