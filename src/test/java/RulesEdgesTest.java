/** Edges of numberings and RULES: terms 2, promises 10 to 14. */
public final class RulesEdgesTest {
    private static final String DIGITS = "0123456789";
    private static final String LETTERS = "whkmp";
    private static final String OPERATORS = "+-*/%";
    private static final String FACTOR = "[" + DIGITS + LETTERS;
    private static final String PIECE = "!(" + FACTOR;

    public static void main(String[] args) {
        Edges.run(RulesEdgesTest.class);
    }

    private static void is(String text, int due) {
        Due.is(text, Edges.rules(text), due);
    }

    private static String filled(String head, String more, String tail, int length) {
        StringBuilder b = new StringBuilder(head);
        while (b.length() + tail.length() < length) {
            b.append(more);
        }
        return b.append(tail).toString();
    }

    @Says(in = 0, words = "NUMBERINGS 0 to 3")
    static void numberings() {
        Edges.range("of means", 0, 3, k -> Edges.withPlaces(1, 0).means(k, 1, 0, 0, 0));
        AshCity x = Edges.withPlaces(1, 0);
        for (int k = 0; k < 4; k++) {
            x.means(k, 1, 0, 0, 0);
        }
        Edges.range("of meaning", 0, 3, k -> x.meaning(k, 1, 0) == 0);
    }

    @Says(in = 0, words = "a NUMBER (1 to 99) of one means a PLACE")
    static void numbers() {
        Edges.range("of means", 1, 99, n -> Edges.withPlaces(1, 0).means(0, n, 0, 0, 0));
        AshCity x = Edges.withPlaces(1, 0);
        for (int n = 1; n < 100; n++) {
            x.means(1, n, 0, 0, 0);
        }
        Edges.range("of meaning", 1, 99, n -> x.meaning(1, n, 0) == 0);
        Due.none("not of the numbering ahead", x.meaning(0, 99, 0));
        Due.none("not of the numbering behind", x.meaning(2, 1, 0));
        Edges.range("place of means", 0, 2, p -> Edges.withPlaces(3, 0).means(0, 1, p, 0, 0));
    }

    @Says(in = 0, words = "from a WEEK to a WEEK (both too; of several tellings for a WEEK the latest; 200 at most)")
    static void tellings() {
        AshCity x = Edges.withPlaces(3, 0);
        x.means(0, 1, 0, 10, 20);
        x.means(0, 1, 1, 20, 30);
        x.means(0, 1, 2, 15, 15);
        int[][] rows = {{9, -1}, {10, 0}, {14, 0}, {15, 2}, {16, 0}, {19, 0}, {20, 1}, {30, 1}, {31, -1}};
        for (int[] r : rows) {
            Due.is("week " + r[0], x.meaning(0, 1, r[0]), r[1]);
        }
        Edges.range("from", 0, 9999, w -> Edges.withPlaces(1, 0).means(0, 1, 0, w, 9999));
        Edges.range("to", 0, 9999, w -> Edges.withPlaces(1, 0).means(0, 1, 0, 0, w));
        Due.no("the wrong way round", Edges.withPlaces(1, 0).means(0, 1, 0, 6, 5));
        Due.yes("of one week", Edges.withPlaces(1, 0).means(0, 1, 0, 5, 5));
        AshCity y = Edges.withPlaces(2, 0);
        for (int i = 0; i < 199; i++) {
            y.means(0, 1, 0, 0, 9);
        }
        Due.yes("the 200th", y.means(0, 1, 1, 0, 9));
        Due.is("it is the latest", y.meaning(0, 1, 9), 1);
        Due.no("a 201st", y.means(0, 1, 0, 0, 9));
    }

    @Says(in = 0, words = "RULES 0 to 19, in FORCE from a WEEK to a WEEK (both too)")
    static void inForce() {
        AshCity x = new AshCity();
        for (int i = 0; i < 20; i++) {
            Due.is("rules", Due.rules(x, 10 * i, 10 * i + 5, "v5"), i);
        }
        int[][] rows = {{9, 0}, {10, 5}, {15, 5}, {16, 0}, {189, 0}, {190, 5}, {195, 5}, {196, 0}};
        for (int[] r : rows) {
            Due.is("week " + r[0], x.number(1, r[0], 0, 0, 0, -1), r[1]);
        }
        Edges.range("from", 0, 9999, w -> Due.rules(new AshCity(), w, 9999, "n1") == 0);
        Edges.range("to", 0, 9999, w -> Due.rules(new AshCity(), 0, w, "n1") == 0);
        Due.none("the wrong way round", Due.rules(new AshCity(), 6, 5, "n1"));
        Due.is("of one week, behind NOW", Due.rules(new AshCity(), 5, 5, "n1"), 0);
    }

    @Says(in = 0, words = "a TEXT of at most 160 bytes")
    static void textOf160() {
        String whole = filled("v09(w=0+", "0+", "0)", 160);
        Due.is("length", whole.length(), 160);
        is(whole, 0);
        AshCity x = new AshCity();
        Due.feed(x, filled("v9(w=0+", "0+", "0)", 161));
        Due.none("161 bytes", x.rules(0, 9, 161));
        Due.is("160 of them lack the end", x.rules(0, 9, 160), -1160);
    }

    @Says(in = 0, words = "no blanks")
    static void noBlanks() {
        is(" n1", -1000);
        is("n 1", -1001);
        is("n1 ", -1002);
        is("n1; n2", -1003);
        is("n1(w =1)", -1004);
        is("n1\n", -1002);
        is("n1\t", -1002);
    }

    @Says(in = 0, words = "CLAUSES (10 at most) with a ; (59) between two")
    static void tenClauses() {
        AshCity x = new AshCity();
        Due.is("ten", Due.rules(x, 0, 9, "v0;v1;v2;v3;v4;v5;v6;v7;v8;v9"), 0);
        Due.is("all count", x.number(1, 0, 0, 0, 0, -1), 9);
        Due.is("ten of them", x.count(20), 10);
        is("v0;v1;v2;v3;v4;v5;v6;v7;v8;v9;v10", -4030);
        is("v0:v1", -1002);
        is("v0;;v1", -1003);
        is(";v1", -1000);
        is("v1;", -1003);
        is("v0v1", -1002);
    }

    /** The greatest number that is taken behind a CLAUSE's letter, and the least that is not. */
    private static void clauseNumber(String letter, int most) {
        is(letter + 0, 0);
        is(letter + most, 0);
        is(letter + (most + 1), -3001);
        is(letter + 99999, -3001);
        is(letter + "-1", -1001);
    }

    @Says(in = 0, words = "nK(C) lines may be by NUMBERING K (0 to 3)")
    static void clauseN() {
        clauseNumber("n", 3);
        AshCity x = new AshCity();
        Due.rules(x, 0, 9, "n0;n3");
        Due.is("the least and the greatest", x.number(3, 0, 0, 0, 0, -1), 9);
    }

    @Says(in = 0, words = "aN(C) a find is like a thing only if N of 8 MARKS agree (0 to 8)")
    static void clauseA() {
        clauseNumber("a", 8);
        AshCity x = new AshCity();
        Due.rules(x, 0, 0, "a0");
        Due.rules(x, 1, 1, "a8");
        Due.is("0", x.number(0, 0, 0, 0, 0, -1), 0);
        Due.is("8", x.number(0, 1, 0, 0, 0, -1), 8);
    }

    @Says(in = 0, words = "vN(C) a sign is worth N (0 to 99)")
    static void clauseV() {
        clauseNumber("v", 99);
        AshCity x = new AshCity();
        Due.rules(x, 0, 9, "v1");
        Due.rules(x, 0, 0, "v0");
        Due.rules(x, 1, 1, "v99");
        Due.is("0 is one, too", x.number(1, 0, 0, 0, 0, -1), 0);
        Due.is("99", x.number(1, 1, 0, 0, 0, -1), 99);
    }

    @Says(in = 0, words = "fN(C) LAYERS below N (0 to 7; greater numbers) must not be cut")
    static void clauseF() {
        clauseNumber("f", 7);
        AshCity x = new AshCity();
        Due.rules(x, 0, 9, "f3");
        x.dig(0, 0, 0, 0, 0, 3, 0, 0);
        x.dig(0, 0, 0, 0, 0, 4, 0, 0);
        Due.is("down to 3", x.barred(0), 0);
        Due.is("down to 4", x.barred(1), 1);
    }

    @Says(in = 0, words = "xI.J strikes CLAUSE J (0 to 9) of RULES I (0 to 19)")
    static void clauseX() {
        is("x0.0", 0);
        is("x19.9", 0);
        is("x20.9", -3001);
        is("x19.10", -3004);
        is("x00019.00009", 0);
        is("x000019.0", -2006);
        is("x0.000009", -2008);
        AshCity x = new AshCity();
        Due.rules(x, 0, 9, "v0;v1;v2;v3;v4;v5;v6;v7;v8;v9");
        for (int i = 1; i < 18; i++) {
            Due.rules(x, 0, 9, "n1");
        }
        Due.rules(x, 0, 9, "f2");
        Due.is("nine is the last", x.number(1, 0, 0, 0, 0, -1), 9);
        Due.is("rules 18", x.number(2, 0, 0, 0, 0, -1), 2);
        Due.is("rules 19", Due.rules(x, 0, 9, "x0.9;x18.0"), 19);
        Due.is("clause 9 of rules 0", x.number(1, 0, 0, 0, 0, -1), 8);
        Due.is("clause 0 of rules 18", x.number(2, 0, 0, 0, 0, -1), 7);
    }

    @Says(in = 0, words = "(C) may be left out: it holds.")
    static void withoutCondition() {
        AshCity x = new AshCity();
        Due.rules(x, 0, 9, "v1;v2(0=1);n2;a3;f4");
        Due.is("v", x.number(1, 0, 0, 0, 0, -1), 1);
        Due.is("n", x.number(3, 0, 0, 0, 0, -1), 4);
        Due.is("a", x.number(0, 0, 0, 0, 0, -1), 3);
        Due.is("f", x.number(2, 0, 0, 0, 0, -1), 4);
        is("v1()", -1003);
        is("x0.0(1=1)", -1004);
    }

    @Says(in = 0, words = "C: PARTS with a | between two, one of which must hold")
    static void parts() {
        Due.no("none", Edges.holds("0=1|0=1|0=1"));
        Due.yes("the first", Edges.holds("1=1|0=1|0=1"));
        Due.yes("the last", Edges.holds("0=1|0=1|1=1"));
        Due.yes("all", Edges.holds("1=1|1=1|1=1"));
        is("v7(1=1||1=1)", -1007);
        is("v7(|1=1)", -1003);
        is("v7(1=1|)", -1007);
    }

    @Says(in = 0, words = "PIECES with an & between two, all of which must")
    static void pieces() {
        Due.yes("all", Edges.holds("1=1&1=1&1=1"));
        Due.no("not the first", Edges.holds("0=1&1=1&1=1"));
        Due.no("not the last", Edges.holds("1=1&1=1&0=1"));
        Due.yes("& binds more than |", Edges.holds("1=1|1=1&0=1"));
        Due.yes("& binds more than |, ahead of it", Edges.holds("0=1&1=1|1=1"));
        is("v7(1=1&&1=1)", -1007);
        is("v7(&1=1)", -1003);
        is("v7(1=1&)", -1007);
    }

    @Says(in = 0, words = "a PIECE: !PIECE, (C), or E, one of < > =, and E")
    static void comparisons() {
        int[][] rows = {{1, 2}, {2, 2}, {3, 2}};
        for (int[] r : rows) {
            Due.is(r[0] + "<" + r[1], Edges.holds(r[0] + "<" + r[1]) ? 1 : 0, r[0] < r[1] ? 1 : 0);
            Due.is(r[0] + ">" + r[1], Edges.holds(r[0] + ">" + r[1]) ? 1 : 0, r[0] > r[1] ? 1 : 0);
            Due.is(r[0] + "=" + r[1], Edges.holds(r[0] + "=" + r[1]) ? 1 : 0, r[0] == r[1] ? 1 : 0);
        }
        Due.no("! takes one PIECE alone", Edges.holds("!0=1&0=1"));
        Due.yes("! of all in ( )", Edges.holds("!(0=1&0=1)"));
        Due.yes("! twice", Edges.holds("!!1=1"));
        is("v7(1<2<3)", -1006);
        is("v7(1<=2)", -1005);
        is("v7(1)", -1004);
        is("v7((1)=1)", -1005);
        is("v7((1=1)=1)", -1008);
    }

    @Says(in = 0, words = "from the left on")
    static void fromTheLeft() {
        Due.yes("-", Edges.holds("10-4-3=3"));
        Due.yes("- and +", Edges.holds("10-4+3=9"));
        Due.yes("/", Edges.holds("100/10/5=2"));
        Due.yes("/ and *", Edges.holds("7/2*2=6"));
        Due.yes("* and %", Edges.holds("7*5%4=3"));
        Due.yes("% and *", Edges.holds("7%4*5=15"));
        Due.yes("* ahead of +", Edges.holds("1+2*3=7"));
        Due.yes("[ ] ahead of all", Edges.holds("[1+2]*3=9"));
        Due.yes("[ ] behind -", Edges.holds("10-[4-3]=9"));
    }

    @Says(in = 0, words = "a number of one to five digits")
    static void digits() {
        Due.yes("one", Edges.holds("9=9"));
        Due.yes("five", Edges.holds("99999=99998+1"));
        Due.yes("five, zeros ahead", Edges.holds("00009=9"));
        is("v7(100000=1)", -2008);
        is("v7(000001=1)", -2008);
        is("v7(=1)", -1003);
    }

    @Says(in = 0, words = "m its MARKS (0 without), p the KIND of the PLACE (-1 without)")
    static void letters() {
        Due.yes("all at their greatest", Edges.holds("w=9999&h=7&k=7&m=255&p=2", 9999, 7, 7, 255, 2));
        Due.yes("all at their least", Edges.holds("w=0&h=0&k=0&m=0&p=0", 0, 0, 0, 0, 0));
        Due.yes("without a place", Edges.holds("p=0-1", 0, 0, 0, 0, -1));
        Due.yes("without a place p is below 0", Edges.holds("p<0", 0, 0, 0, 0, -1));
        AshCity x = new AshCity();
        Due.rules(x, 0, 9, "f7;f0(m=0&p+1=0)");
        x.dig(0, 0, 0, 0, 0, 1, 0, 0);
        Due.is("a dig has neither", x.barred(0), 1);
    }

    @Says(in = 0, words = "All is reckoned with 32 bits, as the machine does")
    static void wrapAround() {
        String most = "[65535*32768+32767]";
        String least = "[65536*32768]";
        Due.yes("the greatest", Edges.holds(most + ">0"));
        Due.yes("the least", Edges.holds(least + "<0"));
        Due.yes("one more than the greatest", Edges.holds(most + "+1=" + least));
        Due.yes("one less than the least", Edges.holds(least + "-1=" + most));
        Due.yes("a product that wraps to 0", Edges.holds("65536*65536=0"));
        Due.yes("a product that wraps", Edges.holds("99999*99999=14098*99999+79507"));
        Due.yes("another", Edges.holds("46341*46341<0"));
        Due.yes("the last that does not wrap", Edges.holds("46340*46340>0"));
        Due.yes("the least by -1", Edges.holds(least + "/[0-1]=" + least));
        Due.yes("what is left of it", Edges.holds(least + "%[0-1]=0"));
        Due.yes("the least times -1", Edges.holds(least + "*[0-1]=" + least));
        Due.yes("rounded towards 0", Edges.holds("[0-7]/2=0-3"));
        Due.yes("what is left has the sign of the first", Edges.holds("[0-7]%2=0-1"));
        Due.yes("not of the second", Edges.holds("7%[0-2]=1"));
        Due.yes("0 by something", Edges.holds("0/5=0&0%5=0"));
        Due.yes("something by 1", Edges.holds("7/1=7&7%1=0"));
        Due.yes("something by -1", Edges.holds("7/[0-1]=0-7&7%[0-1]=0"));
    }

    @Says(in = 0, words = "what is divided by 0 is REFUSED; then C does not hold")
    static void dividedByZero() {
        String[] refused = {"1/0=0", "1%0=0", "0/0=0", "0%0=0", "1/[w-w]=0", "0=1/0", "0*[1/0]=0", "1/0<1", "1/0>0", "1=1&1/0=0", "1/0=0|1=1", "!1/0=0",
            "!(1/0=0)", "!!1/0=0", "(1/0=0)|1=1", "!(1=1&1%0=1)", "5/m=0", "5%h=0"};
        for (String c : refused) {
            Due.no(c, Edges.holds(c));
        }
        AshCity x = new AshCity();
        Due.rules(x, 0, 9, "v5;v6(1/0=0);n1(1%0=0);n2");
        Due.is("another clause holds", x.number(1, 0, 0, 0, 0, -1), 5);
        Due.is("of n, too", x.number(3, 0, 0, 0, 0, -1), 4);
        Due.yes("by another number", Edges.holds("5/m=2", 0, 0, 0, 2, -1));
    }

    @Says(in = 0, words = "Of a C as much is asked, from the left, as matters.")
    static void asMuchAsMatters() {
        String[] right = {"1=1|1/0=0", "1=1|1=1|1/0=0", "1=1|1=1&1/0=0", "0=1&1/0=0|1=1", "0=1&1=1&1/0=0|1=1", "!(0=1&1/0=0)", "(1=1|1/0=0)&1=1",
            "!(0=1)|1/0=0", "0=1&(1/0=0|1=1)|1=1"};
        for (String c : right) {
            Due.yes(c, Edges.holds(c));
        }
        String[] wrong = {"0=1|1/0=0|1=1", "1=1&1/0=0|1=1", "1/0=0&0=1|1=1", "(0=1|1/0=0)|1=1", "!(1=1|1/0=0)"};
        for (String c : wrong) {
            Due.no(c, Edges.holds(c));
        }
    }

    /** Behind some signs just these may stand: any other of the 256 is FAULT 1, at its place. */
    private static void stands(String behind, String signs, boolean end) {
        Due.is("the end behind " + behind, Edges.rules(behind), end ? 0 : -1000 - behind.length());
        for (char c = 0; c < 256; c++) {
            int answer = Edges.rules(behind + c);
            if (signs.indexOf(c) < 0) {
                Due.is("byte " + (int) c + " behind " + behind, answer, -1000 - behind.length());
            } else {
                Due.no("fault at " + c + " behind " + behind, answer == -1000 - behind.length());
            }
        }
    }

    @Says(in = 0, words = "1 what can't stand there (the end, too)")
    static void faultOne() {
        String[] letters = {"n1", "a1", "v1", "f1"};
        for (String l : letters) {
            stands(l.substring(0, 1), DIGITS, false);
            stands(l, DIGITS + "(;", true);
            stands(l + "(w=w)", ";", true);
        }
        stands("n1;", "navfx", false);
        stands("x", DIGITS, false);
        stands("x1", DIGITS + ".", false);
        stands("x1.", DIGITS, false);
        stands("x1.1", DIGITS + ";", true);
        String[] pieces = {"n1(", "n1((", "n1(!", "n1(w=w&", "n1(w=w|", "n1((w=w&", "n1(!(w=w|", "n1;n2("};
        for (String p : pieces) {
            stands(p, PIECE, false);
        }
        String[] factors = {"n1([", "n1(w=", "n1(w<", "n1(w>", "n1(w+", "n1(w-", "n1(w*", "n1(w/", "n1(w%", "n1(w=w+", "n1([w*", "n1(!w=", "n1([["};
        for (String f : factors) {
            stands(f, FACTOR, false);
        }
        stands("n1(w", OPERATORS + "<>=", false);
        stands("n1(1", DIGITS + OPERATORS + "<>=", false);
        stands("n1([w]", OPERATORS + "<>=", false);
        stands("n1([w", OPERATORS + "]", false);
        stands("n1([1", DIGITS + OPERATORS + "]", false);
        stands("n1(w=w", OPERATORS + "&|)", false);
        stands("n1(w=[w]", OPERATORS + "&|)", false);
        stands("n1((w=w", OPERATORS + "&|)", false);
        stands("n1((w=w)", "&|)", false);
        stands("n1(!(w=w)", "&|)", false);
    }

    @Says(in = 0, words = "1 what can't stand there (the end, too)")
    static void faultOneAtTheBeginning() {
        for (char c = 0; c < 256; c++) {
            is(String.valueOf(c), "navfx".indexOf(c) < 0 ? -1000 : -1001);
        }
    }

    @Says(in = 0, words = "2 a sixth digit, at it")
    static void faultTwo() {
        is("n000000", -2006);
        is("n999999", -2006);
        is("n00001", 0);
        is("n000012345", -2006);
        is("x000001.0", -2006);
        is("x0.000001", -2008);
        is("v7(w=000001)", -2010);
        is("v7([100000]=1)", -2009);
        is("n1;n000001", -2009);
    }

    @Says(in = 0, words = "3 a number that it can't be, at its first digit (asked when its digits end)")
    static void faultThree() {
        is("n4", -3001);
        is("n00004", -3001);
        is("n99999", -3001);
        is("n4z", -3001);
        is("n4(", -3001);
        is("n10", -3001);
        is("a9;n4", -3001);
        is("n3;a9", -3004);
        is("x20", -3001);
        is("x20z", -3001);
        is("x1.10z", -3003);
        is("x99999.99999", -3001);
        is("v7(w=99999)", 0);
    }

    @Says(in = 0, words = "4 an 11th CLAUSE, at its letter (if that can stand there)")
    static void faultFour() {
        String ten = "n1;n1;n1;n1;n1;n1;n1;n1;n1;n1";
        is(ten, 0);
        String letters = "navfx";
        for (char c = 0; c < 256; c++) {
            is(ten + ";" + c, letters.indexOf(c) < 0 ? -1030 : -4030);
        }
        is(ten + ";", -1030);
        is(ten + ";n9", -4030);
        is(ten + ";n1;n1", -4030);
        is("n4;" + ten, -3001);
    }

    @Says(in = 0, words = "5 a seventh of ( [ ! that are open in one another in one CLAUSE, at it (a ! is open till its PIECE ends)")
    static void faultFive() {
        is("n1((((((w=1))))))", 0);
        is("n1(((((((w=1)))))))", -5008);
        is("n1([[[[[w]]]]]=1)", 0);
        is("n1([[[[[[w]]]]]]=1)", -5008);
        is("n1(!!!!!w=1)", 0);
        is("n1(!!!!!!w=1)", -5008);
        is("n1(!(!(!w=1)))", 0);
        is("n1(!(!(![w]=1)))", -5008);
        is("n1(!(!(!(w=1))))", -5008);
        is("n1(!(!(!!w=1)))", -5008);
        is("n1(((((w=[[w]])))))", -5010);
        is("n1((((([w]=[w])))))", 0);
        is("n1(!!!!!w=w&!!!!!w=w|!!!!!w=w)", 0);
        is("n1(!!!!!w=[w])", -5010);
        is("n1(!!!!(w=w)&!!!!!w=w)", 0);
        is("n1(!!!!(w=w&!w=w))", -5012);
        is("n1(!!!!w=w&[[[[[w]]]]]=w)", 0);
        is("n1(!!!!!w=w);n1(!!!!!w=w)", 0);
        is("n1((((((w=1(", -1011);
        is("n1((((((w=1[", -1011);
        is("n1((((((w=1!", -1011);
    }

    @Says(in = 0, words = "FAULTS, the first from the left")
    static void firstFault() {
        is("n4;z", -3001);
        is("n1;z;n4", -1003);
        is("n123456;z", -2006);
        is("n1(w=123456(", -2010);
        is("n1(!!!!!!z", -5008);
        is("n1(z!!!!!!", -1003);
    }

    @Says(in = 0, words = "each CLAUSE that is not STRUCK by then counts")
    static void struckByThen() {
        AshCity x = new AshCity();
        Due.rules(x, 0, 9, "v1;v2");
        Due.rules(x, 0, 9, "x0.1");
        Due.is("struck by 1", x.number(1, 0, 0, 0, 0, -1), 1);
        Due.rules(x, 5, 9, "x1.0");
        Due.is("the x is struck by 2", x.number(1, 5, 0, 0, 0, -1), 2);
        Due.is("not on week 4", x.number(1, 4, 0, 0, 0, -1), 1);
        Due.rules(x, 7, 9, "x2.0");
        Due.is("that x is struck by 3", x.number(1, 7, 0, 0, 0, -1), 1);
    }

    @Says(in = 0, words = "an x that counts strikes its CLAUSE, if that is of lower RULES in FORCE then")
    static void strikesLowerOnes() {
        AshCity own = new AshCity();
        Due.rules(own, 0, 9, "x0.1;v1");
        Due.is("not its own", own.number(1, 0, 0, 0, 0, -1), 1);
        AshCity higher = new AshCity();
        Due.rules(higher, 0, 9, "x1.0;x19.0");
        Due.rules(higher, 0, 9, "v1");
        Due.is("not higher ones", higher.number(1, 0, 0, 0, 0, -1), 1);
        AshCity others = new AshCity();
        Due.rules(others, 0, 9, "v5;n3;a4;f6");
        Due.rules(others, 0, 9, "n0;a0(1=0);v0(1=0);f0(1=0)");
        Due.is("no other clause strikes: v", others.number(1, 0, 0, 0, 0, -1), 5);
        Due.is("no other clause strikes: n", others.number(3, 0, 0, 0, 0, -1), 9);
        AshCity lacking = new AshCity();
        Due.rules(lacking, 0, 9, "v1");
        Due.rules(lacking, 0, 9, "x0.1;x0.9");
        Due.is("a clause that is not there", lacking.number(1, 0, 0, 0, 0, -1), 1);
        AshCity later = new AshCity();
        Due.rules(later, 0, 9, "v1");
        Due.rules(later, 5, 6, "x0.0");
        int[][] rows = {{4, 1}, {5, 0}, {6, 0}, {7, 1}};
        for (int[] r : rows) {
            Due.is("week " + r[0], later.number(1, r[0], 0, 0, 0, -1), r[1]);
        }
        AshCity lines = new AshCity();
        Due.rules(lines, 0, 9, "n1;n2");
        Due.rules(lines, 5, 6, "x0.1");
        int[][] bits = {{4, 6}, {5, 2}, {6, 2}, {7, 6}, {5, 2}, {4, 6}};
        for (int[] b : bits) {
            Due.is("lines of week " + b[0], lines.number(3, b[0], 0, 0, 0, -1), b[1]);
        }
    }

    @Says(in = 0, words = "N of the last CLAUSE of the highest RULES that counts and holds; without one 8, 0, 7")
    static void theNumber() {
        AshCity x = new AshCity();
        int[] without = {8, 0, 7};
        for (int which = 0; which < 3; which++) {
            Due.is("without one", x.number(which, 0, 0, 0, 0, -1), without[which]);
        }
        Due.rules(x, 0, 9, "a1;a2;v1;v2;f1;f2;a3(h=1);v3(h=1);f3(h=1)");
        Due.rules(x, 5, 9, "a5(k=1);v5(k=1);f5(k=1)");
        for (int which = 0; which < 3; which++) {
            Due.is("the last", x.number(which, 0, 0, 0, 0, -1), 2);
            Due.is("the last that holds", x.number(which, 0, 1, 0, 0, -1), 3);
            Due.is("of the highest", x.number(which, 5, 1, 1, 0, -1), 5);
            Due.is("of the highest that holds", x.number(which, 5, 1, 0, 0, -1), 3);
            Due.is("not in force", x.number(which, 10, 1, 1, 0, -1), without[which]);
        }
    }

    @Says(in = 0, words = "Of n all that count and hold; none: all four NUMBERINGS.")
    static void theNumberings() {
        AshCity x = new AshCity();
        Due.is("none", x.number(3, 0, 0, 0, 0, -1), 15);
        Due.rules(x, 0, 9, "n0(k=1);n1(k=1);n1(k<2)");
        Due.rules(x, 0, 9, "n3(k=1)");
        Due.is("all", x.number(3, 0, 0, 1, 0, -1), 11);
        Due.is("one", x.number(3, 0, 0, 0, 0, -1), 2);
        Due.is("none holds", x.number(3, 0, 0, 2, 0, -1), 15);
        Due.rules(x, 0, 9, "x0.2");
        Due.is("none counts and holds", x.number(3, 0, 0, 0, 0, -1), 15);
        Due.is("not in force", x.number(3, 10, 0, 1, 0, -1), 15);
    }

    @Says(in = 10, words = "no such ones")
    static void noSuchTelling() {
        AshCity x = Edges.withPlaces(2, 0);
        int[][] wrong = {{-1, 1, 0, 0, 0}, {4, 1, 0, 0, 0}, {0, 0, 0, 0, 0}, {0, 100, 0, 0, 0}, {0, 1, -1, 0, 0}, {0, 1, 2, 0, 0}, {0, 1, 0, -1, 0},
            {0, 1, 0, 0, 10000}, {0, 1, 0, 1, 0}, {0, 1, 0, 10000, 10000}, {0, 1, 0, -1, -1}};
        for (int[] w : wrong) {
            Due.no("means " + java.util.Arrays.toString(w), x.means(w[0], w[1], w[2], w[3], w[4]));
        }
        for (int i = 0; i < 5; i++) {
            int[] far = {0, 1, 0, 0, 0};
            far[i] = Integer.MIN_VALUE;
            Due.no("means far below", x.means(far[0], far[1], far[2], far[3], far[4]));
            far[i] = Integer.MAX_VALUE;
            Due.no("means far above", x.means(far[0], far[1], far[2], far[3], far[4]));
        }
        Due.is("none was told", x.count(15), 0);
        Due.none("it means nothing", x.meaning(0, 1, 0));
    }

    @Says(in = 10, words = "200 were told")
    static void twoHundredTellings() {
        AshCity x = Edges.withPlaces(2, 0);
        for (int i = 0; i < 200; i++) {
            Due.yes("telling " + i, x.means(i % 4, 1 + i % 99, 0, 0, 9999));
        }
        Due.no("a 201st", x.means(0, 1, 1, 0, 9999));
        Due.is("200", x.count(15), 200);
        Due.is("it means what it meant", x.meaning(0, 1, 0), 0);
    }

    @Says(in = 11, words = "NONE: none, no such ones")
    static void meaningOfNone() {
        AshCity x = Edges.withPlaces(1, 0);
        Due.none("none", x.meaning(0, 1, 0));
        for (int k = 0; k < 4; k++) {
            x.means(k, 1, 0, 1, 9999);
            x.means(k, 99, 0, 1, 9999);
        }
        Due.none("none then", x.meaning(0, 1, 0));
        Due.none("none of that number", x.meaning(0, 2, 1));
        Due.is("one", x.meaning(3, 99, 9999), 0);
        int[][] wrong = {{-1, 1, 1}, {4, 1, 1}, {0, 0, 1}, {0, 100, 1}, {1, -99, 1}, {0, 101, 1}, {0, 199, 1}, {0, 1, -1}, {0, 1, 10000},
            {Integer.MIN_VALUE, 1, 1}, {Integer.MAX_VALUE, 1, 1}, {0, Integer.MIN_VALUE, 1}, {0, Integer.MAX_VALUE, 1}, {0, 1, Integer.MIN_VALUE},
            {0, 1, Integer.MAX_VALUE}};
        for (int[] w : wrong) {
            Due.none("meaning " + java.util.Arrays.toString(w), x.meaning(w[0], w[1], w[2]));
        }
    }

    @Says(in = 12, words = "Twenty bytes come behind the tape, the highest of each int first: how many it has")
    static void bytesOfTheTape() {
        AshCity x = new AshCity();
        Due.is("twenty", x.feed(0x76313B76, 0x323B7633, 0x3B76343B, 0x76353B76, 0x363B7637), 20);
        Due.is("behind them", x.feed(0x3B763800, -1, Integer.MIN_VALUE, Integer.MAX_VALUE, 0), 40);
        Due.is("v1;v2;v3;v4;v5;v6;v7;v8", x.rules(0, 9, 23), 0);
        Due.is("eight clauses", x.count(20), 8);
        Due.is("the last of them", x.number(1, 0, 0, 0, 0, -1), 8);
        Due.is("from the beginning again", x.feed(0x76390000, 0, 0, 0, 0), 20);
        Due.is("v9", x.rules(0, 9, 2), 1);
        Due.is("v9", x.number(1, 0, 0, 0, 0, -1), 9);
    }

    @Says(in = 12, words = "NONE if that would be more than 400")
    static void fullTape() {
        AshCity x = new AshCity();
        for (int i = 1; i < 20; i++) {
            x.feed(0x76376E31, 0, 0, 0, 0);
        }
        Due.is("the 400th byte", x.feed(1, 2, 3, 4, 5), 400);
        Due.none("more", x.feed(0x7A7A7A7A, 0, 0, 0, 0));
        Due.is("400", x.count(14), 400);
        Due.is("what it has is as it was", x.rules(0, 9, 2), 0);
        Due.is("v7", x.number(1, 0, 0, 0, 0, -1), 7);
        Due.is("then it takes again", x.feed(1, 2, 3, 4, 5), 20);
    }

    @Says(in = 13, words = "by the first n bytes of the tape (1 to 160; empty then)")
    static void firstBytes() {
        AshCity x = new AshCity();
        Due.feed(x, filled("v1;v2(w=0+", "0+", "0)", 160));
        Due.feed(x, "zzz");
        Edges.range("n", 1, 160, n -> {
            AshCity y = new AshCity();
            Due.feed(y, filled("v1;v2(w=0+", "0+", "0)", 160));
            Due.feed(y, "zzz");
            return y.rules(0, 9, n) != -1;
        });
        Due.is("160 of 180", x.rules(0, 9, 160), 0);
        Due.is("all are gone, those behind, too", x.count(14), 0);
        Due.feed(x, "v3;v4");
        Due.is("two bytes of them", x.rules(0, 9, 2), 1);
        Due.is("one clause", x.count(21), 1);
        Due.is("empty then", x.count(14), 0);
        Due.feed(x, "n");
        Due.is("one byte", x.rules(0, 9, 1), -1001);
        Due.is("empty behind a fault", x.count(14), 0);
    }

    @Says(in = 13, words = "a FAULT: -1000 times its number, less its place")
    static void faultAnswers() {
        is("z", -1000);
        is("n1(w=1)(", -1007);
        is("n123456", -2006);
        is("n4", -3001);
        is("n1;n1;n1;n1;n1;n1;n1;n1;n1;n1;n1", -4030);
        is("n1(!!!!!!", -5008);
        String late = filled("v09(w=0+", "0+", "0", 159);
        is(late + "!", -1159);
        is(late, -1159);
        AshCity x = new AshCity();
        Due.rules(x, 0, 9, "z");
        Due.is("no rules by it", x.count(5), 0);
        Due.none("no clauses of it", x.count(20));
        Due.is("the next are the first", Due.rules(x, 0, 9, "v1"), 0);
    }

    @Says(in = 13, words = "NONE: no such ones")
    static void noSuchRules() {
        AshCity x = new AshCity();
        Due.feed(x, "v7");
        int[][] wrong = {{-1, 9, 2}, {0, 10000, 2}, {1, 0, 2}, {10000, 10000, 2}, {-1, -1, 2}, {0, 9, 0}, {0, 9, -1}, {0, 9, 161},
            {Integer.MIN_VALUE, 9, 2}, {0, Integer.MAX_VALUE, 2}, {0, 9, Integer.MIN_VALUE}, {0, 9, Integer.MAX_VALUE}};
        for (int[] w : wrong) {
            Due.none("rules " + java.util.Arrays.toString(w), x.rules(w[0], w[1], w[2]));
        }
        Due.is("the tape stays", x.count(14), 20);
        Due.is("none are there", x.count(5), 0);
        Due.is("they are taken then", x.rules(0, 9, 2), 0);
    }

    @Says(in = 13, words = "20 are there")
    static void twentyRules() {
        AshCity x = new AshCity();
        for (int i = 0; i < 19; i++) {
            Due.rules(x, 0, 9, "v1");
        }
        Due.is("the 20th", Due.rules(x, 0, 9, "v2"), 19);
        Due.none("a 21st", Due.rules(x, 0, 9, "v3"));
        Due.is("the tape stays", x.count(14), 20);
        Due.is("20", x.count(5), 20);
        Due.is("v2", x.number(1, 0, 0, 0, 0, -1), 2);
    }

    @Says(in = 13, words = "it has not so many (the tape stays)")
    static void tapeTooShort() {
        AshCity x = new AshCity();
        Due.none("of an empty one", x.rules(0, 9, 1));
        Due.feed(x, "v7");
        Due.none("21 of 20", x.rules(0, 9, 21));
        Due.is("the tape stays", x.count(14), 20);
        Due.is("20 of 20", x.rules(0, 9, 20), -1002);
        Due.is("empty then", x.count(14), 0);
    }

    @Says(in = 14, words = "which 0 a, 1 v, 2 f, or (3) NUMBERINGS by which lines may be, as bits")
    static void whichNumber() {
        Edges.range("which", 0, 3, which -> new AshCity().number(which, 0, 0, 0, 0, -1) != -1);
        AshCity x = new AshCity();
        Due.rules(x, 0, 9, "a1;v2;f3;n2;n3");
        int[] due = {1, 2, 3, 12};
        for (int which = 0; which < 4; which++) {
            Due.is("which " + which, x.number(which, 0, 0, 0, 0, -1), due[which]);
        }
    }

    @Says(in = 14, words = "by letters h, k, m (0 to 255), and a PLACE (NONE: none)")
    static void numberLetters() {
        Edges.range("week", 0, 9999, w -> new AshCity().number(0, w, 0, 0, 0, -1) == 8);
        Edges.range("h", 0, 7, h -> new AshCity().number(0, 0, h, 0, 0, -1) == 8);
        Edges.range("k", 0, 7, k -> new AshCity().number(0, 0, 0, k, 0, -1) == 8);
        Edges.range("m", 0, 255, m -> new AshCity().number(0, 0, 0, 0, m, -1) == 8);
        AshCity x = Edges.withPlaces(3, 0);
        Due.rules(x, 0, 9, "a0(p<0);a1(p=0);a2(p=1);a3(p=2)");
        for (int place = AshCity.NONE; place < 3; place++) {
            Due.is("place " + place, x.number(0, 0, 0, 0, 0, place), place + 1);
        }
        Due.none("place 3", x.number(0, 0, 0, 0, 0, 3));
        Due.none("place -2", x.number(0, 0, 0, 0, 0, -2));
    }

    @Says(in = 14, words = "NONE: no such ones")
    static void noSuchNumber() {
        AshCity x = Edges.withPlaces(1, 0);
        for (int which = 0; which < 4; which++) {
            int[][] wrong = {{-1, 0, 0, 0, 0}, {10000, 0, 0, 0, 0}, {0, -1, 0, 0, 0}, {0, 8, 0, 0, 0}, {0, 0, -1, 0, 0}, {0, 0, 8, 0, 0}, {0, 0, 0, -1, 0},
                {0, 0, 0, 256, 0}, {0, 0, 0, 0, 1}, {0, 0, 0, 0, -2}, {0, 0, 0, 0, 30}};
            for (int[] w : wrong) {
                Due.none("number " + which + " " + java.util.Arrays.toString(w), x.number(which, w[0], w[1], w[2], w[3], w[4]));
            }
        }
        Due.none("which -1", x.number(-1, 0, 0, 0, 0, 0));
        Due.none("which 4", x.number(4, 0, 0, 0, 0, 0));
        Due.is("no place is needed", new AshCity().number(3, 0, 0, 0, 0, AshCity.NONE), 15);
        Due.none("a place that is not there", new AshCity().number(3, 0, 0, 0, 0, 0));
    }
}
