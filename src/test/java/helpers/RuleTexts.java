import java.util.Random;

/** Texts of RULES by chance: right ones, and ones with a sign changed, put in, taken away or cut off. */
public final class RuleTexts {
    private final Random r;

    public RuleTexts(Random r) {
        this.r = r;
    }

    public String right(int mostClauses, int longest) {
        for (int i = 0; i < 100; i++) {
            StringBuilder b = new StringBuilder();
            int clauses = 1 + r.nextInt(mostClauses);
            for (int c = 0; c < clauses; c++) {
                if (c > 0) {
                    b.append(';');
                }
                clause(b);
            }
            if (b.length() <= longest) {
                return b.toString();
            }
        }
        return "n1";
    }

    public String bent(String text) {
        StringBuilder b = new StringBuilder(text);
        int changes = 1 + r.nextInt(2);
        String signs = "navfx;.()[]!|&<>=+-*/%whkmp0123456789 z";
        for (int i = 0; i < changes; i++) {
            int at = r.nextInt(b.length() + 1);
            char sign = r.nextInt(12) == 0 ? (char) r.nextInt(256) : signs.charAt(r.nextInt(signs.length()));
            int how = r.nextInt(5);
            if (how == 0 && at > 0) {
                b.setLength(at);
            } else if (how == 1 && at < b.length() && b.length() > 1) {
                b.deleteCharAt(at);
            } else if (how == 2 && at < b.length()) {
                b.setCharAt(at, sign);
            } else if (how == 3) {
                b.insert(at, sign == '(' || sign == '[' || sign == '!' ? "((((((".replace('(', sign) : "1234567".substring(r.nextInt(7)));
            } else {
                b.insert(at, sign);
            }
        }
        return b.length() > 160 ? b.substring(0, 160) : b.toString();
    }

    private void clause(StringBuilder b) {
        int which = r.nextInt(6);
        if (which == 0) {
            b.append('x').append(r.nextInt(r.nextInt(3) == 0 ? 20 : 4)).append('.').append(r.nextInt(r.nextInt(3) == 0 ? 10 : 4));
            return;
        }
        int[] most = {0, 3, 8, 99, 7, 3};
        b.append(" navfn".charAt(which));
        int number = r.nextInt(most[which] + 1);
        b.append(r.nextInt(20) == 0 ? "00" : "").append(number);
        if (r.nextInt(4) > 0) {
            b.append('(');
            condition(b, 1, r.nextInt(6) == 0 ? 6 : 3);
            b.append(')');
        }
    }

    private void condition(StringBuilder b, int open, int most) {
        int parts = 1 + r.nextInt(5) / 3;
        for (int i = 0; i < parts; i++) {
            b.append(i > 0 ? "|" : "");
            int pieces = 1 + r.nextInt(5) / 3;
            for (int k = 0; k < pieces; k++) {
                b.append(k > 0 ? "&" : "");
                piece(b, open, most);
            }
        }
    }

    private void piece(StringBuilder b, int open, int most) {
        int how = r.nextInt(7);
        if (how == 0 && open < most) {
            b.append('!');
            piece(b, open + 1, most);
        } else if (how == 1 && open < most) {
            b.append('(');
            condition(b, open + 1, most);
            b.append(')');
        } else {
            sum(b, open, most);
            b.append("<>=".charAt(r.nextInt(3)));
            sum(b, open, most);
        }
    }

    private void sum(StringBuilder b, int open, int most) {
        factor(b, open, most);
        for (int i = r.nextInt(6) - 3; i > 0; i--) {
            b.append("+-*/%".charAt(r.nextInt(5)));
            factor(b, open, most);
        }
    }

    private void factor(StringBuilder b, int open, int most) {
        int how = r.nextInt(8);
        if (how == 0 && open < most) {
            b.append('[');
            sum(b, open + 1, most);
            b.append(']');
        } else if (how < 5) {
            b.append("whkmp".charAt(r.nextInt(5)));
        } else {
            b.append(r.nextInt(6) == 0 ? r.nextInt(100000) : r.nextInt(12));
        }
    }
}
