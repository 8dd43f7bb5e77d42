import java.util.Random;

/** Texts by chance, right and bent: AshCity and the plain model find the same FAULT, or reckon the same NUMBERS. */
public final class RuleFuzzTest {
    private static final int TEXTS = 30000;

    public static void main(String[] args) {
        Random r = new Random(43);
        RuleTexts texts = new RuleTexts(r);
        for (int i = 0; i < TEXTS; i++) {
            String text = texts.right(1 + r.nextInt(14), 160);
            if (r.nextInt(4) > 0) {
                text = texts.bent(text);
            }
            AshCity x = new AshCity();
            int got = Due.rules(x, 0, 9999, text);
            Due.is(text, got, Oracle.fault(text));
            if (got == 0) {
                compareNumbers(x, text, r);
            }
        }
        Due.end();
    }

    private static void compareNumbers(AshCity x, String text, Random r) {
        Oracle y = new Oracle();
        for (int i = 0; i < text.length(); i++) {
            y.tape.add((int) text.charAt(i));
        }
        y.rules(0, 9999, text.length());
        for (int i = 0; i < 10; i++) {
            int which = r.nextInt(4), week = r.nextInt(12), h = r.nextInt(8), k = r.nextInt(8), m = r.nextInt(256);
            Due.is(text + " asked " + which, x.number(which, week, h, k, m, -1), y.number(which, week, h, k, m, -1));
        }
    }
}
