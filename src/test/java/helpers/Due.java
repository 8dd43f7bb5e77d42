/** Counts and prints answers that are not the ones that are due; feeds texts. */
public final class Due {
    private static int wrong = 0;
    private static int asked = 0;
    private static String about = "";

    private Due() {
    }

    /** What the answers from now on are about; it is printed ahead of each that is not as due. */
    public static void about(String words) {
        about = words;
    }

    public static int asked() {
        return asked;
    }

    public static void is(String what, long got, long want) {
        asked++;
        if (got != want) {
            wrong++;
            System.out.println(about + what + " answered " + got + ", due is " + want);
        }
    }

    public static void yes(String what, boolean got) {
        is(what, got ? 1 : 0, 1);
    }

    public static void no(String what, boolean got) {
        is(what, got ? 1 : 0, 0);
    }

    /** NONE is due. */
    public static void none(String what, long got) {
        is(what, got, -1);
    }

    /** Feeds signs, with zeros behind them up to a multiple of twenty. */
    public static void feed(AshCity x, String signs) {
        for (int i = 0; i < signs.length(); i += 20) {
            int[] five = new int[5];
            for (int k = 0; k < 20; k++) {
                int sign = i + k < signs.length() ? signs.charAt(i + k) & 255 : 0;
                five[k / 4] = five[k / 4] << 8 | sign;
            }
            x.feed(five[0], five[1], five[2], five[3], five[4]);
        }
    }

    /** Feeds whole numbers, with zeros behind them up to a multiple of five. */
    public static void feedNumbers(AshCity x, int... numbers) {
        int[] all = java.util.Arrays.copyOf(numbers, (numbers.length + 4) / 5 * 5);
        for (int i = 0; i < all.length; i += 5) {
            x.feed(all[i], all[i + 1], all[i + 2], all[i + 3], all[i + 4]);
        }
    }

    public static void feedBytes(AshCity x, int... bytes) {
        StringBuilder signs = new StringBuilder();
        for (int b : bytes) {
            signs.append((char) b);
        }
        feed(x, signs.toString());
    }

    public static int rules(AshCity x, int from, int to, String text) {
        feed(x, text);
        return x.rules(from, to, text.length());
    }

    public static void end() {
        System.out.println(wrong == 0 ? asked + " answers are as due" : wrong + " of " + asked + " answers are not as due");
        if (wrong != 0) {
            System.exit(1);
        }
    }
}
