/** A run at the limits stays within the room and ends soon; and calls behind the 512th still end. */
public final class RoomTest {
    private static final long MOST_BYTES_A_CALL = 2000;

    public static void main(String[] args) {
        AshCity x = full();
        ask(x, 1);
        com.sun.management.ThreadMXBean beans = (com.sun.management.ThreadMXBean) java.lang.management.ManagementFactory.getThreadMXBean();
        long me = Thread.currentThread().getId();
        long before = beans.getThreadAllocatedBytes(me);
        AshCity y = new AshCity();
        long made = beans.getThreadAllocatedBytes(me) - before;
        Due.yes("an object of " + made + " bytes", made < 60000 && y.count(0) == 0);
        before = beans.getThreadAllocatedBytes(me);
        int calls = ask(x, 20);
        made = (beans.getThreadAllocatedBytes(me) - before) / calls;
        Due.yes(made + " bytes a call", made < MOST_BYTES_A_CALL);
        Due.end();
    }

    private static AshCity full() {
        AshCity x = new AshCity();
        x.city(10, 10);
        x.now(9000);
        for (int i = 0; i < 30; i++) {
            x.place(i % 3, i, i);
            x.wall(i, 10000);
        }
        for (int i = 0; i < 100; i++) {
            x.dig(0, i % 3, 0, 99, 0, 7, 100, 200);
            x.draw(0, i, i);
            x.sign(i % 30, 0, 0, 5);
        }
        for (int i = 0; i < 150; i++) {
            x.find(0, 100, 119, 1 + i % 2, 0, 7, 0, i);
        }
        for (int i = 0; i < 200; i++) {
            x.means(i % 4, 1 + i % 2, i % 30, 0, 9999);
        }
        for (int i = 0; i < 60; i++) {
            x.thing(i % 10, 0, i);
        }
        for (int i = 0; i < 20; i++) {
            Due.is("rules", Due.rules(x, 0, 9999, "n0(w*2=1|h>3);n1(w*2=1|h>3);n2(w*2=1|h>3);n3(w*2=1|h>3);a0(m+k=999);a0(w=1&p=3|1=1);v3(w>5)"), i);
        }
        for (int i = 0; i < 9; i++) {
            x.work(i, 1, 50);
            x.hollow(44, 0);
        }
        return x;
    }

    private static int ask(AshCity x, int times) {
        int calls = 0;
        for (int i = 0; i < times; i++) {
            x.sure(9999);
            x.nowhere(149, 9999);
            x.beside(i % 8);
            Due.feedBytes(x, 0, 1, 2, 3, 4, 5, 6, 7);
            Due.is("join", x.join(8), 8);
            Due.feedBytes(x, 0, 1, 2, 3, 4, 5, 6, 7);
            x.lost(8, 1);
            x.check(0);
            x.best(9);
            x.way(0);
            x.hour(0, 0);
            x.who(0, 2);
            x.stood(0, 0, 9000, 3);
            x.may(0, 9000);
            x.ground(0, 0, 9999, 9999);
            x.number(0, 1, 1, 1, 1, 1);
            calls += 17;
        }
        return calls;
    }
}
