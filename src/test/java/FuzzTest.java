import java.util.ArrayList;
import java.util.List;
import java.util.Random;

/** Runs of 512 calls by chance, each call answered by AshCity and by the plain model beside it. */
public final class FuzzTest {
    private static final int CALLS = 512;
    private static final int METHODS = 41;

    private final Random r;
    private final RuleTexts texts;
    private final AshCity x = new AshCity();
    private final Oracle y = new Oracle();
    private final List<String> tale = new ArrayList<>();
    private final int[] weights = new int[METHODS];
    private int calls = 0;
    private boolean wrong = false;
    private final int weeks;
    private final int hands;
    private final int kinds;

    private FuzzTest(long seed) {
        r = new Random(seed);
        texts = new RuleTexts(r);
        weeks = r.nextInt(4) == 0 ? 9999 : 3 + r.nextInt(40);
        hands = 1 + r.nextInt(3);
        kinds = 1 + r.nextInt(3);
        for (int i = 0; i < METHODS; i++) {
            weights[i] = r.nextInt(3) == 0 ? 0 : 1 + r.nextInt(6);
        }
        weights[0] = Math.min(weights[0], 1);
        weights[1] = Math.min(weights[1], 2);
    }

    public static void main(String[] args) {
        long from = args.length > 0 ? Long.parseLong(args[0]) : 1;
        long to = args.length > 1 ? Long.parseLong(args[1]) : 300;
        int bad = 0;
        for (long seed = from; seed <= to && bad < 3; seed++) {
            if (!new FuzzTest(seed).run()) {
                System.out.println("seed " + seed);
                bad++;
            }
        }
        System.out.println(bad == 0 ? "runs " + from + " to " + to + " are as due" : "not as due");
        if (bad > 0) {
            System.exit(1);
        }
    }

    private void note(String call, long got, long want) {
        calls++;
        tale.add(call + " -> " + got);
        if (got != want) {
            wrong = true;
            System.out.println(call + " answered " + got + ", due is " + want + " after " + calls + " calls");
        }
    }

    private void note(String call, boolean got, boolean want) {
        note(call, got ? 1 : 0, want ? 1 : 0);
    }

    /** Mostly from least to most; at times at their edges or far away. */
    private int pick(int least, int most) {
        int how = r.nextInt(60);
        if (how == 0) {
            int[] far = {least - 1, most + 1, Integer.MIN_VALUE, Integer.MAX_VALUE, -1, -2};
            return far[r.nextInt(far.length)];
        }
        if (how < 3) {
            return how == 1 ? least : most;
        }
        return most < least || most - least < 0 ? most : least + r.nextInt(most - least + 1);
    }

    private int week() {
        return r.nextInt(40) == 0 ? pick(0, 9999) : r.nextInt(5) == 0 ? pick(0, weeks) : pick(0, Math.min(weeks, y.now));
    }

    private int cell() {
        return pick(0, y.W * y.H - 1);
    }

    private int hand() {
        return r.nextInt(20) == 0 ? pick(0, 7) : r.nextInt(hands);
    }

    private int kind() {
        return r.nextInt(20) == 0 ? pick(0, 7) : r.nextInt(kinds);
    }

    private int marks() {
        return r.nextInt(3) == 0 ? pick(0, 255) : r.nextInt(4);
    }

    private int number() {
        return r.nextInt(5) == 0 ? pick(0, 99) : 1 + r.nextInt(3);
    }

    private int above(int from, int most) {
        return from + r.nextInt(r.nextInt(10) == 0 ? 25 : most);
    }

    private int corner(int a, int most) {
        return r.nextInt(20) == 0 ? cell() : a + r.nextInt(most) + y.W * r.nextInt(most);
    }

    private boolean run() {
        note("now", x.now(r.nextInt(weeks + 1)), true);
        y.now(x.count(0));
        int places = r.nextInt(12);
        for (int i = 0; i < places; i++) {
            place();
        }
        int all = 0;
        for (int w : weights) {
            all += w;
        }
        while (calls < CALLS && !wrong && all > 0) {
            int at = r.nextInt(all);
            int method = 0;
            while (at >= weights[method]) {
                at -= weights[method];
                method++;
            }
            call(method);
        }
        for (int i = -1; i < 45 && !wrong; i++) {
            note("count(" + i + ")", x.count(i), y.count(i));
        }
        if (wrong) {
            for (String line : tale.subList(Math.max(0, tale.size() - 12), tale.size())) {
                System.out.println("    " + line);
            }
        }
        return !wrong;
    }

    private void call(int method) {
        if (method < 14) {
            callGround(method);
        } else if (method < 26) {
            callFinds(method);
        } else {
            callRest(method);
        }
    }

    private void place() {
        int k = pick(0, 2), a = cell(), b = corner(a, 3);
        note("place(" + k + ", " + a + ", " + b + ")", x.place(k, a, b), y.place(k, a, b));
    }

    private void feed(String signs) {
        for (int i = 0; i < signs.length(); i += 20) {
            int[] f = new int[5];
            for (int k = 0; k < 20; k++) {
                f[k / 4] = f[k / 4] << 8 | (i + k < signs.length() ? signs.charAt(i + k) : 0);
            }
            note("feed", x.feed(f[0], f[1], f[2], f[3], f[4]), y.feed(f[0], f[1], f[2], f[3], f[4]));
        }
    }

    private void callGround(int method) {
        int a, b, c, d, e, f;
        switch (method) {
            case 0: a = pick(4, 10); b = pick(4, 10); note("city", x.city(a, b), y.city(a, b)); break;
            case 1: a = r.nextInt(8) == 0 ? pick(0, weeks) : pick(y.now, Math.min(9999, y.now + 3)); note("now(" + a + ")", x.now(a), y.now(a)); break;
            case 2: place(); break;
            case 3: a = cell(); note("placeOf", x.placeOf(a), y.placeOf(a)); break;
            case 4: case 5:
                a = cell(); b = corner(a, 4); c = pick(0, 2); d = c == 0 && r.nextInt(10) > 0 ? 0 : pick(0, 7); e = week();
                int hand = hand(), bottom = d == 0 ? pick(0, 7) : above(d, 4), to = above(e, 6);
                note("dig(" + hand + ", " + c + ", " + a + ", " + b + ", " + d + ", " + bottom + ", " + e + ", " + to + ")",
                        x.dig(hand, c, a, b, d, bottom, e, to), y.dig(hand, c, a, b, d, bottom, e, to));
                break;
            case 6: a = pick(0, y.digs.size() - 1); note("strike(" + a + ")", x.strike(a), y.strike(a)); break;
            case 7: a = cell(); b = pick(0, 7); c = week(); d = week(); note("ground(" + a + ", " + b + ", " + c + ", " + d + ")", x.ground(a, b, c, d), y.ground(a, b, c, d)); break;
            case 8: a = cell(); b = pick(0, 7); c = week(); d = week(); note("first(" + a + ", " + b + ", " + c + ", " + d + ")", x.first(a, b, c, d), y.first(a, b, c, d)); break;
            case 9:
                a = pick(0, 3); b = number(); c = pick(0, y.places.size() - 1); d = week(); e = r.nextInt(2) == 0 ? 9999 : above(d, 20);
                note("means(" + a + ", " + b + ", " + c + ", " + d + ", " + e + ")", x.means(a, b, c, d, e), y.means(a, b, c, d, e));
                break;
            case 10: a = pick(0, 3); b = number(); c = week(); note("meaning", x.meaning(a, b, c), y.meaning(a, b, c)); break;
            case 11: a = r.nextInt(); note("feed", x.feed(a, 0, 1, 2, a), y.feed(a, 0, 1, 2, a)); break;
            case 12: rules(); break;
            default:
                a = pick(0, 3); b = week(); c = pick(0, 7); d = pick(0, 7); e = pick(0, 255); f = pick(-1, y.places.size() - 1);
                note("number(" + a + ", " + b + ", " + c + ", " + d + ", " + e + ", " + f + ")", x.number(a, b, c, d, e, f), y.number(a, b, c, d, e, f));
        }
    }

    private void rules() {
        if (r.nextInt(4) > 0) {
            clearTape();
        }
        String text = texts.right(5, 160);
        if (r.nextInt(5) == 0) {
            text = texts.bent(text);
        }
        feed(text);
        int from = r.nextInt(2) == 0 ? 0 : week();
        int to = r.nextInt(2) == 0 ? 9999 : above(from, 10);
        int n = r.nextInt(20) == 0 ? pick(0, 160) : text.length();
        note("rules(" + from + ", " + to + ", " + n + ") " + text, x.rules(from, to, n), y.rules(from, to, n));
    }

    private void clearTape() {
        note("check(0)", x.check(0), y.check(0));
    }

    private void feedFinds(int n) {
        clearTape();
        StringBuilder b = new StringBuilder();
        boolean free = r.nextInt(15) == 0;
        int[] row = new int[Math.max(1, y.finds.size())];
        for (int i = 0; i < row.length; i++) {
            row[i] = i;
        }
        for (int i = 0; i < n; i++) {
            int at = Math.min(row.length - 1, i) + r.nextInt(Math.max(1, row.length - i));
            int find = row[Math.min(at, row.length - 1)];
            row[Math.min(at, row.length - 1)] = row[Math.min(i, row.length - 1)];
            row[Math.min(i, row.length - 1)] = find;
            b.append((char) (free ? r.nextInt(256) : find));
        }
        feed(b.toString());
    }

    private void callFinds(int method) {
        int a, b, c, d, e, f, g, h;
        switch (method) {
            case 14: case 15:
                a = hand(); b = week(); c = above(b, 8); d = number(); e = pick(0, 7); f = above(e, 4); g = kind(); h = marks();
                note("find(" + a + ", " + b + ", " + c + ", " + d + ", " + e + ", " + f + ", " + g + ", " + h + ")", x.find(a, b, c, d, e, f, g, h), y.find(a, b, c, d, e, f, g, h));
                break;
            case 16: a = pick(0, y.finds.size() - 1); b = week(); note("may(" + a + ", " + b + ")", x.may(a, b), y.may(a, b)); break;
            case 17: a = week(); if (calls % 8 == 0) note("sure(" + a + ")", x.sure(a), y.sure(a)); else calls++; break;
            case 18: a = pick(0, Math.max(0, y.finds.size() / 2)); b = week(); if (calls % 8 == 0) note("nowhere(" + a + ", " + b + ")", x.nowhere(a, b), y.nowhere(a, b)); else calls++; break;
            case 19: a = pick(0, y.digs.size() - 1); note("barred(" + a + ")", x.barred(a), y.barred(a)); break;
            case 20: a = pick(0, 9); b = kind(); c = marks(); if (y.things.size() < 9 || r.nextInt(6) == 0) note("thing(" + a + ", " + b + ", " + c + ")", x.thing(a, b, c), y.thing(a, b, c)); else calls++; break;
            case 21: a = pick(0, y.things.size() - 1); boolean is = r.nextBoolean(); note("gone(" + a + ", " + is + ")", x.gone(a, is), y.gone(a, is)); break;
            case 22: a = pick(0, y.finds.size() - 1); b = pick(0, y.things.size() - 1); note("like(" + a + ", " + b + ")", x.like(a, b), y.like(a, b)); break;
            case 23:
                a = Math.min(y.finds.size(), r.nextInt(y.things.size() < 9 ? 9 : 4)); feedFinds(a); b = r.nextInt(20) == 0 ? pick(0, 8) : a;
                if (y.things.size() > 12 && b > 4) { calls++; break; }
                note("join(" + b + ")", x.join(b), y.join(b));
                for (int i = -1; i < 9; i++) note("joined(" + i + ")", x.joined(i), y.joined(i));
                break;
            case 24: a = Math.min(y.finds.size(), r.nextInt(30)); feedFinds(a); b = r.nextInt(2); note("lost(" + a + ", " + b + ")", x.lost(a, b), y.lost(a, b)); break;
            default: a = pick(0, 7); if (calls % 8 == 0) note("beside(" + a + ")", x.beside(a), y.beside(a)); else calls++; break;
        }
    }

    private void callRest(int method) {
        int a, b, c, d;
        switch (method) {
            case 26: a = pick(0, y.places.size() - 1); b = pick(0, 10000); note("wall(" + a + ", " + b + ")", x.wall(a, b), y.wall(a, b)); break;
            case 27: a = r.nextInt(2) == 0 ? 0 : pick(0, y.walls.size() - 1); b = week(); c = marks(); note("draw(" + a + ", " + b + ", " + c + ")", x.draw(a, b, c), y.draw(a, b, c)); break;
            case 28: a = pick(0, y.drawings.size() - 1); b = week(); note("copy(" + a + ", " + b + ")", x.copy(a, b), y.copy(a, b)); break;
            case 29: a = r.nextInt(2) == 0 ? 0 : pick(0, y.walls.size() - 1); b = r.nextInt(4) > 0 ? r.nextInt(2) : pick(0, 7); c = week(); d = pick(0, 3); note("stood(" + a + ", " + b + ", " + c + ", " + d + ")", x.stood(a, b, c, d), y.stood(a, b, c, d)); break;
            case 30: a = pick(0, 7); b = pick(0, 99); c = r.nextInt(3) == 0 ? b : pick(b, 99); note("ash(" + a + ", " + b + ", " + c + ")", x.ash(a, b, c), y.ash(a, b, c)); break;
            case 31:
                a = pick(0, 7); b = r.nextInt(10) == 0 ? pick(0, 7) : pick(a, 7);
                if (r.nextInt(4) == 0) note("above(" + a + ", " + b + ")", x.above(a, b), y.above(a, b)); else calls++;
                break;
            case 32: a = pick(0, 7); b = pick(0, 1); note("hour(" + a + ", " + b + ")", x.hour(a, b), y.hour(a, b)); break;
            case 33: a = cell(); b = r.nextInt(3) == 0 ? pick(0, 8) : r.nextInt(3); note("height(" + a + ", " + b + ")", x.height(a, b), y.height(a, b)); break;
            case 34: a = cell(); b = pick(0, 7); note("hollow(" + a + ", " + b + ")", x.hollow(a, b), y.hollow(a, b)); break;
            case 35: a = pick(0, y.hollows.size() - 1); if (calls % 4 == 0) note("way(" + a + ")", x.way(a), y.way(a)); else calls++; break;
            case 36: a = r.nextInt(5) == 0 ? pick(0, 29) : r.nextInt(4); b = kind(); c = r.nextInt(2) == 0 ? 0 : pick(0, y.places.size() - 1); d = week(); note("sign(" + a + ", " + b + ", " + c + ", " + d + ")", x.sign(a, b, c, d), y.sign(a, b, c, d)); break;
            case 37: a = r.nextInt(2) == 0 ? 0 : pick(0, y.places.size() - 1); b = pick(0, 2); note("who(" + a + ", " + b + ")", x.who(a, b), y.who(a, b)); break;
            case 38: a = pick(0, y.walls.size() - 1); b = r.nextInt(2) == 0 ? pick(1, 10000) : 1 + r.nextInt(4); c = pick(1, 100); note("work(" + a + ", " + b + ", " + c + ")", x.work(a, b, c), y.work(a, b, c)); break;
            case 39: a = r.nextInt(2) == 0 ? pick(0, 100000) : r.nextInt(20); if (calls % 4 == 0) note("best(" + a + ")", x.best(a), y.best(a)); else calls++; a = pick(0, (1 << y.works.size()) - 1); note("saves(" + a + ")", x.saves(a), y.saves(a)); break;
            default: check();
        }
    }

    /** Tells what is so, up to some place, or with one number changed. */
    private void check() {
        if (r.nextInt(4) > 0) {
            clearTape();
            StringBuilder b = new StringBuilder();
            int end = r.nextInt(2) == 0 ? 33 : r.nextInt(33);
            for (int c = 0; c < y.W * y.H && b.length() < 12 * end; c++) {
                for (int l = 0; l < 8 && b.length() < 12 * end; l++) {
                    int g = y.ground(c, l, y.now, y.now);
                    if (g != 0) {
                        b.append("\0\0\0").append((char) c).append("\0\0\0").append((char) l).append("\0\0\0").append((char) g);
                    }
                }
            }
            int n = b.length() / 12;
            if (n > 0 && r.nextInt(2) == 0) {
                b.setCharAt(r.nextInt(b.length()), (char) r.nextInt(256));
            }
            feed(b.toString());
            n = r.nextInt(4) == 0 ? pick(0, 34) : n;
            note("check(" + n + ")", x.check(n), y.check(n));
        } else {
            int n = pick(0, 34);
            note("check(" + n + ")", x.check(n), y.check(n));
        }
    }
}
