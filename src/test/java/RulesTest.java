/** Promises 10 to 14: means, meaning, feed, rules, number. */
public final class RulesTest {
    public static void main(String[] args) {
        means();
        twoHundred();
        feed();
        tapeStays();
        faults();
        opens();
        clauses();
        twenty();
        numbers();
        conditions();
        division();
        strikes();
        wrongNumbers();
        Due.end();
    }

    private static void means() {
        AshCity x = new AshCity();
        x.place(0, 0, 0);
        x.place(0, 1, 1);
        Due.yes("means", x.means(3, 99, 0, 0, 9999));
        Due.yes("a later telling", x.means(3, 99, 1, 5, 7));
        Due.is("before", x.meaning(3, 99, 4), 0);
        Due.is("its first week", x.meaning(3, 99, 5), 1);
        Due.is("its last week", x.meaning(3, 99, 7), 1);
        Due.is("behind", x.meaning(3, 99, 8), 0);
        Due.yes("the latest counts", x.means(3, 99, 0, 6, 6));
        Due.is("week 6", x.meaning(3, 99, 6), 0);
        Due.is("another number", x.meaning(3, 98, 6), -1);
        Due.is("another numbering", x.meaning(2, 99, 6), -1);
        int[][] wrong = {{-1, 1, 0, 0, 0}, {4, 1, 0, 0, 0}, {0, 0, 0, 0, 0}, {0, 100, 0, 0, 0}, {0, 1, -1, 0, 0}, {0, 1, 2, 0, 0},
            {0, 1, 0, -1, 0}, {0, 1, 0, 0, 10000}, {0, 1, 0, 5, 4}};
        for (int[] w : wrong) {
            Due.no("means " + java.util.Arrays.toString(w), x.means(w[0], w[1], w[2], w[3], w[4]));
        }
        Due.is("three tellings", x.count(15), 3);
        x.means(1, 5, 0, 0, 9999);
        Due.is("no number 105", x.meaning(0, 105, 0), -1);
        Due.is("no number -95", x.meaning(2, -95, 0), -1);
        int[][] asked = {{-1, 1, 0}, {4, 1, 0}, {0, 0, 0}, {3, 100, 0}, {3, 99, -1}, {3, 99, 10000}};
        for (int[] w : asked) {
            Due.is("meaning " + java.util.Arrays.toString(w), x.meaning(w[0], w[1], w[2]), -1);
        }
    }

    private static void twoHundred() {
        AshCity x = new AshCity();
        x.place(0, 0, 0);
        x.place(0, 1, 1);
        for (int i = 0; i < 200; i++) {
            Due.yes("telling " + i, x.means(0, 1, i % 2, 0, 9));
        }
        Due.no("a 201st", x.means(0, 1, 0, 0, 9));
        Due.is("the 200th counts", x.meaning(0, 1, 9), 1);
        Due.is("200", x.count(15), 200);
    }

    private static void feed() {
        AshCity x = new AshCity();
        for (int i = 1; i <= 20; i++) {
            Due.is("feed " + i, x.feed(1, 2, 3, 4, 5), 20 * i);
        }
        Due.is("a 21st", x.feed(1, 2, 3, 4, 5), -1);
        Due.is("400 bytes", x.count(14), 400);
        x = new AshCity();
        x.feed(0x6E313B61, 0x383B7639, 0x393B6637, 0, -1);
        Due.is("the highest byte first", x.rules(0, 9, 12), 0);
        Due.is("n", x.number(3, 0, 0, 0, 0, -1), 2);
        Due.is("v", x.number(1, 0, 0, 0, 0, -1), 99);
        Due.is("empty then", x.count(14), 0);
        x.feed(0x80000000, 0, 0, 0, 0);
        Due.is("a byte above 127", x.rules(0, 9, 1), -1000);
    }

    private static void tapeStays() {
        AshCity x = new AshCity();
        Due.feed(x, "n1");
        int[][] wrong = {{-1, 0, 2}, {0, 10000, 2}, {5, 4, 2}, {0, 9, 0}, {0, 9, -1}, {0, 9, 21}, {0, 9, 161}, {0, 9, Integer.MAX_VALUE}};
        for (int[] w : wrong) {
            Due.is("rules " + java.util.Arrays.toString(w), x.rules(w[0], w[1], w[2]), -1);
            Due.is("the tape stays", x.count(14), 20);
        }
        Due.is("then it is taken", x.rules(9, 9, 2), 0);
        Due.is("and empty", x.count(14), 0);
        Due.feed(x, "z");
        Due.is("a fault", x.rules(9, 9, 1), -1000);
        Due.is("and empty", x.count(14), 0);
        Due.is("one is there", x.count(5), 1);
    }

    private static void fault(String text, int due) {
        AshCity x = new AshCity();
        Due.is(text, Due.rules(x, 0, 9, text), due);
        Due.is("rules there with " + text, x.count(5), due < 0 ? 0 : 1);
    }

    private static void faults() {
        String[] atLastSign = {"w", "N", "n1;;", "n1,", "n(", "na", "n ", "n1()", "n1(w)", "n1(w=1;", "n1(w=1))", "n1(w=1)(", "n1(w=1)1",
            "n1(w=1&)", "n1(w=1|&", "n1(w=1=", "n1(w<w>", "n1(!)", "n1(!w)", "n1(-", "n1(w+)", "n1(w*+", "n1([w=", "n1([w)", "n1([w]w", "n1([(",
            "n1([!", "n1(w=(", "n1(w=!", "n1(w=1]", "n1((w=1)=", "n1((w=1)+", "n1((w)", "n1(ww", "n1(1w", "n1(w1", "n1(x", "n1(w=1 ", "x1,", "x.",
            "x1.a", "x1.1(", "x1.1.", "n1.", "n1;q", "n1(w=1)n"};
        for (String text : atLastSign) {
            fault(text, -1000 - (text.length() - 1));
            fault(text + "n1", -1000 - (text.length() - 1));
        }
        String[] atEnd = {"n", "n1;", "n1(", "n1(w", "n1(w=", "n1(w=1", "n1(w=1);", "n1(!", "n1((", "n1([", "n1([w]", "n1(w=1&", "n1(w=1|", "n1((w=1)",
            "n1(w+", "x", "x1", "x1."};
        for (String text : atEnd) {
            fault(text, -1000 - text.length());
        }
        fault("a9", -3001);
        fault("a8", 0);
        fault("v100", -3001);
        fault("v99", 0);
        fault("f8", -3001);
        fault("n4z", -3001);
        fault("n00004", -3001);
        fault("n00003", 0);
        fault("n000003", -2006);
        fault("n999999", -2006);
        fault("n1(w=99999)", 0);
        fault("n1(w=999990)", -2010);
        fault("x19.9", 0);
        fault("x20.1", -3001);
        fault("x1.10", -3003);
        fault("x1.000000", -2008);
        fault("n1;a9", -3004);
    }

    private static void opens() {
        fault("n1((((((w=1))))))", 0);
        fault("n1(((((((w=1)))))))", -5008);
        fault("n1(!!!!!w=1)", 0);
        fault("n1(!!!!!!w=1)", -5008);
        fault("n1([[[[[w]]]]]=1)", 0);
        fault("n1([[[[[[w]]]]]]=1)", -5008);
        fault("n1(!([!", -1006);
        fault("n1(!(!([w]=[w])))", 0);
        fault("n1(!(!([[w]]=1)))", -5008);
        fault("n1(!!!!!w=1&!!!!!w=1|!!!!!w=1)", 0);
        fault("n1(!!!!(w=1)&!!!!!w=1)", 0);
        fault("n1(!!!!!w=[1])", -5010);
        fault("n1(((((w=1)))));n1((((((w=1))))))", 0);
        fault("n1((((((w=1&(", -5012);
        fault("n1((((((w=1(", -1011);
    }

    private static void clauses() {
        AshCity x = new AshCity();
        Due.is("ten clauses", Due.rules(x, 0, 9, "n0;n0;n0;n0;n0;n0;n0;n0;n0;x0.0"), 0);
        Due.is("ten", x.count(20), 10);
        fault("n0;n0;n0;n0;n0;n0;n0;n0;n0;n0;x", -4030);
        fault("n0;n0;n0;n0;n0;n0;n0;n0;n0;n0;y", -1030);
        fault("n0;n0;n0;n0;n0;n0;n0;n0;n0;n0;", -1030);
        StringBuilder b = new StringBuilder("v01(w=0");
        while (b.length() < 159) {
            b.append("+0");
        }
        fault(b + ")", 0);
        Due.is("160 bytes", b.length() + 1, 160);
        AshCity y = new AshCity();
        Due.feed(y, "n1(w=1)");
        for (int i = 0; i < 8; i++) {
            y.feed(0, 0, 0, 0, 0);
        }
        Due.is("161 bytes", y.rules(0, 9, 161), -1);
        Due.is("160 bytes with a fault", y.rules(0, 9, 160), -1007);
    }

    private static void twenty() {
        AshCity x = new AshCity();
        for (int i = 0; i < 20; i++) {
            Due.is("rules " + i, Due.rules(x, i, 9999, i % 2 == 0 ? "v" + i : "n1;v" + i), i);
            Due.is("clauses", x.count(20 + i), 1 + i % 2);
        }
        Due.feed(x, "zz");
        Due.is("a 21st", x.rules(0, 9, 2), -1);
        Due.is("the tape stays", x.count(14), 20);
        Due.is("20", x.count(5), 20);
        Due.is("no clauses of 20", x.count(40), -1);
        for (int i = 0; i < 20; i++) {
            Due.is("in force from " + i, x.number(1, i, 0, 0, 0, -1), i);
        }
    }

    private static void numbers() {
        AshCity x = new AshCity();
        Due.is("a without", x.number(0, 0, 0, 0, 0, -1), 8);
        Due.is("v without", x.number(1, 0, 0, 0, 0, -1), 0);
        Due.is("f without", x.number(2, 0, 0, 0, 0, -1), 7);
        Due.is("n without", x.number(3, 0, 0, 0, 0, -1), 15);
        Due.rules(x, 10, 20, "a1;a2;v3;v4(k=0);v5(k=1);f6;n0;n3");
        Due.is("last of one text", x.number(0, 10, 0, 0, 0, -1), 2);
        Due.is("last that holds", x.number(1, 20, 0, 0, 0, -1), 4);
        Due.is("last that holds, k 1", x.number(1, 20, 0, 1, 0, -1), 5);
        Due.is("last that holds, k 2", x.number(1, 20, 0, 2, 0, -1), 3);
        Due.is("f", x.number(2, 20, 0, 2, 0, -1), 6);
        Due.is("n", x.number(3, 20, 0, 2, 0, -1), 9);
        Due.is("not yet in force", x.number(3, 9, 0, 2, 0, -1), 15);
        Due.is("no more in force", x.number(0, 21, 0, 2, 0, -1), 8);
        Due.rules(x, 15, 30, "a0(h=1);n1(h=1);v99(h=7)");
        Due.is("higher rules that hold", x.number(0, 15, 1, 0, 0, -1), 0);
        Due.is("higher rules that don't", x.number(0, 15, 2, 0, 0, -1), 2);
        Due.is("n of all", x.number(3, 15, 1, 0, 0, -1), 11);
        Due.is("n without the higher", x.number(3, 15, 0, 0, 0, -1), 9);
        Due.is("higher alone", x.number(3, 25, 1, 0, 0, -1), 2);
        Due.is("higher alone, none holds", x.number(3, 25, 0, 0, 0, -1), 15);
    }

    private static void holds(String condition, int week, int h, int k, int m, boolean due) {
        AshCity x = new AshCity();
        Due.is(condition, Due.rules(x, 0, 9999, "v7(" + condition + ")"), 0);
        Due.is(condition, x.number(1, week, h, k, m, -1), due ? 7 : 0);
    }

    private static void conditions() {
        holds("w=5&h=6&k=7&m=200", 5, 6, 7, 200, true);
        holds("w=5&h=6&k=7&m=201", 5, 6, 7, 200, false);
        holds("p+1=0", 0, 0, 0, 0, true);
        holds("1<1|2>2|3=4", 0, 0, 0, 0, false);
        holds("1=1|1=2&1=3", 0, 0, 0, 0, true);
        holds("1=2&1=1|1=1", 0, 0, 0, 0, true);
        holds("1=2&(1=1|1=1)", 0, 0, 0, 0, false);
        holds("!1=2&1=2", 0, 0, 0, 0, false);
        holds("!(1=2&1=2)", 0, 0, 0, 0, true);
        holds("!!1=2", 0, 0, 0, 0, false);
        holds("!!1=1", 0, 0, 0, 0, true);
        holds("!!!1=1|!!!!1=1&!!1=1", 0, 0, 0, 0, true);
        holds("1=2&!(1=1)|1=1&!1=2", 0, 0, 0, 0, true);
        holds("10-3-2=5", 0, 0, 0, 0, true);
        holds("2+3*4=14", 0, 0, 0, 0, true);
        holds("[2+3]*4=20", 0, 0, 0, 0, true);
        holds("100/7*7%4=2", 0, 0, 0, 0, true);
        holds("7-10=0-3", 0, 0, 0, 0, true);
        holds("[0-7]/2=0-3", 0, 0, 0, 0, true);
        holds("[0-7]%2=0-1", 0, 0, 0, 0, true);
        holds("99999*99999<99999*99999+1", 0, 0, 0, 0, true);
        holds("65536*32768<0", 0, 0, 0, 0, true);
        holds("65536*65536=0", 0, 0, 0, 0, true);
        holds("65536*32768/[0-1]=65536*32768", 0, 0, 0, 0, true);
        holds("65536*32768%[0-1]=0", 0, 0, 0, 0, true);
        holds("65536*32768-1>0", 0, 0, 0, 0, true);
        holds("00012=12", 0, 0, 0, 0, true);
        AshCity x = new AshCity();
        for (int p = 0; p < 3; p++) {
            x.place(p, p, p);
        }
        Due.rules(x, 0, 9999, "v1(p=0);v2(p=1);v3(p=2);v4(p<0)");
        for (int p = -1; p < 3; p++) {
            Due.is("p of place " + p, x.number(1, 0, 0, 0, 0, p), p == -1 ? 4 : p + 1);
        }
    }

    private static void division() {
        holds("1/0=0", 0, 0, 0, 0, false);
        holds("1%0=0", 0, 0, 0, 0, false);
        holds("!1/0=0", 0, 0, 0, 0, false);
        holds("!(1/0=0)", 0, 0, 0, 0, false);
        holds("1/0=0|1=1", 0, 0, 0, 0, false);
        holds("1=1|1/0=0", 0, 0, 0, 0, true);
        holds("1=2&1/0=0|1=1", 0, 0, 0, 0, true);
        holds("1=2&1/0=0&1/0=0|1=1", 0, 0, 0, 0, true);
        holds("1=1&1/0=0|1=1", 0, 0, 0, 0, false);
        holds("1=1|1/0=0|1/0=0", 0, 0, 0, 0, true);
        holds("(1=1|1/0=0)&(1=2&1/0=0|2=2)", 0, 0, 0, 0, true);
        holds("!(1=2&1/0=0)", 0, 0, 0, 0, true);
        holds("0*[1/0]=0", 0, 0, 0, 0, false);
        holds("0/5=0", 0, 0, 0, 0, true);
        holds("w/h=2", 4, 2, 0, 0, true);
        holds("w/h=2", 4, 0, 0, 0, false);
    }

    private static void strikes() {
        AshCity x = new AshCity();
        Due.rules(x, 0, 100, "v1;v2;v3");
        Due.rules(x, 0, 50, "x0.2;x0.9;x7.0");
        Due.is("struck", x.number(1, 0, 0, 0, 0, -1), 2);
        Due.is("not struck any more", x.number(1, 51, 0, 0, 0, -1), 3);
        Due.rules(x, 10, 20, "x1.0;x2.3;x3.0;v9");
        Due.is("own clauses are not struck", x.number(1, 15, 0, 0, 0, -1), 9);
        Due.is("one in force strikes", x.number(1, 9, 0, 0, 0, -1), 2);
        Due.rules(x, 12, 14, "x2.0;x2.3");
        Due.is("an x that is struck strikes not", x.number(1, 13, 0, 0, 0, -1), 2);
        Due.is("outside of it", x.number(1, 15, 0, 0, 0, -1), 9);
        AshCity y = new AshCity();
        Due.rules(y, 0, 9, "x1.0;v1");
        Due.rules(y, 0, 9, "v2");
        Due.is("no striking upwards", y.number(1, 0, 0, 0, 0, -1), 2);
        AshCity z = new AshCity();
        Due.rules(z, 0, 9, "n1;n2");
        Due.rules(z, 0, 9, "x0.1;n3");
        Due.is("n that are not struck", z.number(3, 0, 0, 0, 0, -1), 10);
        Due.rules(z, 0, 9, "x0.0;x1.1");
        Due.is("an x still strikes", z.number(3, 0, 0, 0, 0, -1), 15);
    }

    private static void wrongNumbers() {
        AshCity x = new AshCity();
        x.place(0, 0, 0);
        int[][] wrong = {{-1, 0, 0, 0, 0, 0}, {4, 0, 0, 0, 0, 0}, {0, -1, 0, 0, 0, 0}, {0, 10000, 0, 0, 0, 0}, {0, 0, -1, 0, 0, 0},
            {0, 0, 8, 0, 0, 0}, {0, 0, 0, -1, 0, 0}, {0, 0, 0, 8, 0, 0}, {0, 0, 0, 0, -1, 0}, {0, 0, 0, 0, 256, 0}, {0, 0, 0, 0, 0, 1},
            {0, 0, 0, 0, 0, -2}, {Integer.MIN_VALUE, 0, 0, 0, 0, 0}};
        for (int[] w : wrong) {
            Due.is("number " + java.util.Arrays.toString(w), x.number(w[0], w[1], w[2], w[3], w[4], w[5]), -1);
        }
        Due.is("the greatest of all", x.number(2, 9999, 7, 7, 255, 0), 7);
    }
}
