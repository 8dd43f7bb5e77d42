import java.util.ArrayList;
import java.util.HashSet;
import java.util.List;
import java.util.Set;

/**
 * The document once more, in its plainest and slowest form: sets of cells instead of rectangles, a machine with a
 * stack instead of a reader that descends, texts cut apart at each asking, rows by trying all. Tests compare.
 */
public final class Oracle {
    static final class Place { int kind; Set<Integer> cells = new HashSet<>(); }
    static final class Dig { int hand, kind, from, to, told, struck = -1; Set<Integer> cells = new HashSet<>(), layers = new HashSet<>(); }
    static final class Telling { int numbering, number, place, from, to; }
    static final class Rule { int from, to; String[] clauses; }
    static final class Find { int hand, from, to, number, kind, marks, told; Set<Integer> layers = new HashSet<>(); }
    static final class Thing { int museum, kind, marks; boolean gone; }
    static final class Wall { int place, worth; }
    static final class Drawing { int number, wall, week, features, told; boolean look; }
    static final class Sign { int name, kind, place, week; }
    static final class Work { int wall, cost, hundredths; }
    static final class Refused extends RuntimeException { private static final long serialVersionUID = 1; }

    int W = 8, H = 8, now = 0;
    final List<Place> places = new ArrayList<>();
    final List<Dig> digs = new ArrayList<>();
    final List<Telling> tellings = new ArrayList<>();
    final List<Rule> rules = new ArrayList<>();
    final List<Find> finds = new ArrayList<>();
    final List<Thing> things = new ArrayList<>();
    final List<Wall> walls = new ArrayList<>();
    final List<Drawing> drawings = new ArrayList<>();
    final List<int[]> cuts = new ArrayList<>();
    final List<int[]> hollows = new ArrayList<>();
    final List<Sign> signs = new ArrayList<>();
    final List<Work> works = new ArrayList<>();
    final List<Integer> tape = new ArrayList<>();
    List<Integer> joinedRow = new ArrayList<>();
    final int[][] spans = new int[8][2];
    int[] heights = new int[100];

    public Oracle() {
        for (int[] s : spans) s[1] = 99;
        java.util.Arrays.fill(heights, 8);
    }

    static boolean in(int x, int a, int b) { return a <= x && x <= b; }
    static boolean week(int w) { return in(w, 0, 9999); }
    static boolean span(int a, int b, int last) { return in(a, 0, last) && in(b, 0, last) && a <= b; }
    boolean cell(int c) { return in(c, 0, W * H - 1); }

    Set<Integer> area(int a, int b) {
        Set<Integer> cells = new HashSet<>();
        if (!cell(a) || !cell(b)) return cells;
        for (int c = 0; c < W * H; c++)
            if (in(c % W, a % W, b % W) && in(c / W, a / W, b / W)) cells.add(c);
        return cells;
    }

    public boolean city(int w, int h) {
        if (!in(w, 4, 10) || !in(h, 4, 10) || !places.isEmpty() || !digs.isEmpty() || !hollows.isEmpty()) return false;
        W = w; H = h;
        java.util.Arrays.fill(heights, 8);
        return true;
    }

    public boolean now(int week) {
        if (!week(week) || week < now) return false;
        now = week;
        return true;
    }

    public int place(int kind, int a, int b) {
        Set<Integer> cells = area(a, b);
        if (!in(kind, 0, 2) || cells.isEmpty() || places.size() == 30) return -1;
        for (int c : cells) if (placeOf(c) != -1) return -1;
        Place p = new Place();
        p.kind = kind;
        p.cells = cells;
        places.add(p);
        return places.size() - 1;
    }

    public int placeOf(int cell) {
        for (int i = 0; i < places.size(); i++) if (places.get(i).cells.contains(cell)) return i;
        return -1;
    }

    public int dig(int hand, int kind, int a, int b, int top, int bottom, int from, int to) {
        Set<Integer> cells = area(a, b);
        if (!in(hand, 0, 7) || !in(kind, 0, 2) || cells.isEmpty() || !span(top, bottom, 7) || !span(from, to, now)) return -1;
        if (kind == 0 && top != 0 || digs.size() == 100) return -1;
        Dig d = new Dig();
        d.hand = hand; d.kind = kind; d.cells = cells; d.from = from; d.to = to; d.told = now;
        for (int l = top; l <= bottom; l++) d.layers.add(l);
        digs.add(d);
        return digs.size() - 1;
    }

    public boolean strike(int i) {
        if (!in(i, 0, digs.size() - 1) || digs.get(i).struck != -1) return false;
        digs.get(i).struck = now;
        return true;
    }

    static boolean known(Dig d, int t) { return d.told <= t && (d.struck == -1 || d.struck > t); }

    int[] groundAndFirst(int cell, int layer, int week, int t) {
        List<Integer> order = new ArrayList<>();
        for (int i = 0; i < digs.size(); i++) order.add(i);
        order.sort((x, y) -> digs.get(x).from != digs.get(y).from ? digs.get(x).from - digs.get(y).from : x - y);
        int state = 0, first = -1;
        for (int i : order) {
            Dig d = digs.get(i);
            if (!known(d, t) || d.from > week || !d.cells.contains(cell) || !d.layers.contains(layer)) continue;
            if (d.kind == 1 && state == 0) state = 1;
            else if (d.kind == 0) state = 2;
            else if (d.kind == 2 && (state == 1 || state == 2)) state = 3;
            if (state != 0 && first == -1) first = i;
        }
        return new int[] {state, first};
    }

    public int ground(int cell, int layer, int week, int t) {
        if (!cell(cell) || !in(layer, 0, 7) || !week(week) || !week(t)) return -1;
        return groundAndFirst(cell, layer, week, t)[0];
    }

    public int first(int cell, int layer, int week, int t) {
        if (!cell(cell) || !in(layer, 0, 7) || !week(week) || !week(t)) return -1;
        return groundAndFirst(cell, layer, week, t)[1];
    }

    public boolean means(int numbering, int number, int place, int from, int to) {
        if (!in(numbering, 0, 3) || !in(number, 1, 99) || !in(place, 0, places.size() - 1) || !span(from, to, 9999)) return false;
        if (tellings.size() == 200) return false;
        Telling t = new Telling();
        t.numbering = numbering; t.number = number; t.place = place; t.from = from; t.to = to;
        tellings.add(t);
        return true;
    }

    public int meaning(int numbering, int number, int week) {
        int found = -1;
        for (Telling t : tellings)
            if (t.numbering == numbering && t.number == number && in(week, t.from, t.to)) found = t.place;
        return found;
    }

    public int feed(int a, int b, int c, int d, int e) {
        if (tape.size() + 20 > 400) return -1;
        for (int x : new int[] {a, b, c, d, e})
            for (int s = 24; s >= 0; s -= 8) tape.add(x >>> s & 255);
        return tape.size();
    }

    public int rules(int from, int to, int n) {
        if (!span(from, to, 9999) || !in(n, 1, 160) || rules.size() == 20 || n > tape.size()) return -1;
        StringBuilder b = new StringBuilder();
        for (int i = 0; i < n; i++) b.append((char) (int) tape.get(i));
        tape.clear();
        int fault = fault(b.toString());
        if (fault != 0) return fault;
        Rule r = new Rule();
        r.from = from; r.to = to; r.clauses = b.toString().split(";");
        rules.add(r);
        return rules.size() - 1;
    }

    enum S { CLAUSE, NUMBER, IN_NUMBER, AFTER_NUMBER, DOT, AFTER_CLAUSE, PIECE, FACTOR, AFTER_FACTOR, AFTER_PIECE }

    /** Sign by sign, with a stack of what is open. */
    public static int fault(String text) {
        S state = S.CLAUSE, then = S.CLAUSE;
        int clauses = 0, most = 0, start = 0, value = 0, digits = 0;
        boolean compared = false;
        StringBuilder open = new StringBuilder();
        for (int i = 0; i <= text.length(); i++) {
            int c = i < text.length() ? text.charAt(i) : -1;
            boolean digit = c >= '0' && c <= '9';
            if (state == S.IN_NUMBER) {
                if (digit) {
                    if (++digits == 6) return -2000 - i;
                    value = value * 10 + c - '0';
                    continue;
                }
                if (value > most) return -3000 - start;
                state = then;
            }
            if (state == S.PIECE && c != '!' && c != '(') { state = S.FACTOR; compared = false; }
            if (state == S.AFTER_FACTOR && !("+-*/%".indexOf(c) >= 0)) {
                boolean bracket = open.charAt(open.length() - 1) == '[';
                if (!bracket && compared) {
                    while (open.charAt(open.length() - 1) == '!') open.setLength(open.length() - 1);
                    state = S.AFTER_PIECE;
                }
            }
            switch (state) {
                case CLAUSE: {
                    if (c < 0 || "navfx".indexOf(c) < 0) return -1000 - i;
                    if (++clauses == 11) return -4000 - i;
                    most = c == 'n' ? 3 : c == 'a' ? 8 : c == 'v' ? 99 : c == 'f' ? 7 : 19;
                    then = c == 'x' ? S.DOT : S.AFTER_NUMBER;
                    state = S.NUMBER;
                    break;
                }
                case NUMBER: {
                    if (!digit) return -1000 - i;
                    start = i; value = c - '0'; digits = 1;
                    state = S.IN_NUMBER;
                    break;
                }
                case DOT: {
                    if (c != '.') return -1000 - i;
                    state = S.NUMBER; most = 9; then = S.AFTER_CLAUSE;
                    break;
                }
                case AFTER_NUMBER:
                case AFTER_CLAUSE: {
                    if (c == '(' && state == S.AFTER_NUMBER) { open.append('('); state = S.PIECE; }
                    else if (c == ';') state = S.CLAUSE;
                    else if (c != -1) return -1000 - i;
                    break;
                }
                case PIECE: {
                    if (open.length() == 6) return -5000 - i;
                    open.append((char) c);
                    break;
                }
                case FACTOR: {
                    if (c == '[') {
                        if (open.length() == 6) return -5000 - i;
                        open.append('[');
                    } else if (digit) {
                        start = i; value = c - '0'; digits = 1; most = 99999; then = S.AFTER_FACTOR;
                        state = S.IN_NUMBER;
                    } else if (c >= 0 && "whkmp".indexOf(c) >= 0) state = S.AFTER_FACTOR;
                    else return -1000 - i;
                    break;
                }
                case AFTER_FACTOR: {
                    if (c >= 0 && "+-*/%".indexOf(c) >= 0) state = S.FACTOR;
                    else if (c == ']' && open.charAt(open.length() - 1) == '[') open.setLength(open.length() - 1);
                    else if (c >= 0 && "<>=".indexOf(c) >= 0 && open.charAt(open.length() - 1) != '[') { compared = true; state = S.FACTOR; }
                    else return -1000 - i;
                    break;
                }
                default: {
                    if (c == '&' || c == '|') state = S.PIECE;
                    else if (c == ')') {
                        open.setLength(open.length() - 1);
                        if (open.length() == 0) state = S.AFTER_CLAUSE;
                        else while (open.charAt(open.length() - 1) == '!') open.setLength(open.length() - 1);
                    } else return -1000 - i;
                }
            }
        }
        return 0;
    }

    /** The place of one of some signs that stands in no bracket: the first, or the last; -1. */
    static int outside(String s, String signs, boolean last) {
        int depth = 0, found = -1;
        for (int i = 0; i < s.length(); i++) {
            char c = s.charAt(i);
            if (c == '(' || c == '[') depth++;
            else if (c == ')' || c == ']') depth--;
            else if (depth == 0 && signs.indexOf(c) >= 0 && (last || found == -1)) found = i;
        }
        return found;
    }

    static boolean truth(String c, int[] letters) {
        int at = outside(c, "|", false);
        if (at >= 0) return truth(c.substring(0, at), letters) || truth(c.substring(at + 1), letters);
        at = outside(c, "&", false);
        if (at >= 0) return truth(c.substring(0, at), letters) && truth(c.substring(at + 1), letters);
        if (c.charAt(0) == '!') return !truth(c.substring(1), letters);
        if (c.charAt(0) == '(') return truth(c.substring(1, c.length() - 1), letters);
        at = outside(c, "<>=", false);
        int a = value(c.substring(0, at), letters), b = value(c.substring(at + 1), letters);
        return c.charAt(at) == '<' ? a < b : c.charAt(at) == '>' ? a > b : a == b;
    }

    static int value(String e, int[] letters) {
        int at = outside(e, "+-", true);
        if (at < 0) at = outside(e, "*/%", true);
        if (at >= 0) {
            int a = value(e.substring(0, at), letters), b = value(e.substring(at + 1), letters);
            char op = e.charAt(at);
            if ((op == '/' || op == '%') && b == 0) throw new Refused();
            return op == '+' ? a + b : op == '-' ? a - b : op == '*' ? a * b : op == '/' ? a / b : a % b;
        }
        if (e.charAt(0) == '[') return value(e.substring(1, e.length() - 1), letters);
        int letter = "whkmp".indexOf(e.charAt(0));
        return letter >= 0 ? letters[letter] : Integer.parseInt(e);
    }

    static boolean holds(String clause, int[] letters) {
        int at = clause.indexOf('(');
        if (at < 0) return true;
        try {
            return truth(clause.substring(at + 1, clause.length() - 1), letters);
        } catch (Refused r) {
            return false;
        }
    }

    static int numberOf(String clause) {
        int at = clause.indexOf('(');
        return Integer.parseInt(clause.substring(1, at < 0 ? clause.length() : at));
    }

    int reckoned(int which, int week, int h, int k, int m, int p) {
        int[] letters = {week, h, k, m, p};
        Set<String> struck = new HashSet<>();
        int bits = 0, number = -1;
        for (int r = rules.size() - 1; r >= 0; r--) {
            Rule rule = rules.get(r);
            if (!in(week, rule.from, rule.to)) continue;
            int last = -1;
            for (int c = 0; c < rule.clauses.length; c++) {
                String clause = rule.clauses[c];
                if (struck.contains(r + "." + c)) continue;
                if (clause.charAt(0) == 'x') {
                    int dot = clause.indexOf('.');
                    int i = Integer.parseInt(clause.substring(1, dot)), j = Integer.parseInt(clause.substring(dot + 1));
                    if (i < r && in(week, rules.get(i).from, rules.get(i).to)) struck.add(i + "." + j);
                } else if ("avfn".indexOf(clause.charAt(0)) == which && holds(clause, letters)) {
                    last = numberOf(clause);
                    bits |= 1 << last;
                }
            }
            if (number == -1) number = last;
        }
        if (which == 3) return bits == 0 ? 15 : bits;
        return number != -1 ? number : which == 0 ? 8 : which == 1 ? 0 : 7;
    }

    public int number(int which, int week, int h, int k, int m, int place) {
        if (!in(which, 0, 3) || !week(week) || !in(h, 0, 7) || !in(k, 0, 7) || !in(m, 0, 255) || !in(place, -1, places.size() - 1)) return -1;
        return reckoned(which, week, h, k, m, place == -1 ? -1 : places.get(place).kind);
    }

    public int find(int hand, int from, int to, int number, int top, int bottom, int kind, int marks) {
        if (!in(hand, 0, 7) || !span(from, to, now) || to - from + 1 > 20 || !in(number, 0, 99) || !span(top, bottom, 7)) return -1;
        if (!in(kind, 0, 7) || !in(marks, 0, 255) || finds.size() == 150) return -1;
        Find f = new Find();
        f.hand = hand; f.from = from; f.to = to; f.number = number; f.kind = kind; f.marks = marks; f.told = now;
        for (int l = top; l <= bottom; l++) f.layers.add(l);
        finds.add(f);
        return finds.size() - 1;
    }

    boolean mayBe(Find f, int place, int t, int h) {
        for (int week = f.from; week <= f.to; week++) {
            boolean named = f.number == 0;
            for (int n = 0; n < 4 && !named; n++)
                named = meaning(n, f.number, week) == place
                        && (reckoned(3, week, h == -1 ? f.hand : h, f.kind, f.marks, places.get(place).kind) >> n & 1) == 1;
            if (!named) continue;
            for (Dig d : digs) {
                if (!known(d, t) || d.hand != f.hand || d.kind == 2 || !in(week, d.from, d.to)) continue;
                Set<Integer> cells = new HashSet<>(d.cells), layers = new HashSet<>(d.layers);
                cells.retainAll(places.get(place).cells);
                layers.retainAll(f.layers);
                if (!cells.isEmpty() && !layers.isEmpty()) return true;
            }
        }
        return false;
    }

    int bits(Find f, int t, int h) {
        int bits = 0;
        for (int p = 0; p < places.size(); p++) if (mayBe(f, p, t, h)) bits |= 1 << p;
        return bits;
    }

    public int may(int i, int t) {
        if (!in(i, 0, finds.size() - 1) || !week(t) || finds.get(i).told > t) return -1;
        return bits(finds.get(i), t, -1);
    }

    public int sure(int t) {
        if (!week(t)) return -1;
        int n = 0;
        for (Find f : finds) if (f.told <= t && Integer.bitCount(bits(f, t, -1)) == 1) n++;
        return n;
    }

    public int nowhere(int k, int t) {
        if (!week(t)) return -1;
        List<Integer> all = new ArrayList<>();
        for (int i = 0; i < finds.size(); i++) if (finds.get(i).told <= t && bits(finds.get(i), t, -1) == 0) all.add(i);
        return in(k, 0, all.size() - 1) ? all.get(k) : -1;
    }

    public int barred(int i) {
        if (!in(i, 0, digs.size() - 1) || digs.get(i).kind == 2) return -1;
        Dig d = digs.get(i);
        int f = reckoned(2, d.from, d.hand, d.kind, 0, -1);
        for (int l : d.layers) if (l > f) return 1;
        return 0;
    }

    public int thing(int museum, int kind, int marks) {
        if (!in(museum, 0, 9) || !in(kind, 0, 7) || !in(marks, 0, 255) || things.size() == 60) return -1;
        Thing t = new Thing();
        t.museum = museum; t.kind = kind; t.marks = marks;
        things.add(t);
        return things.size() - 1;
    }

    public boolean gone(int k, boolean is) {
        if (!in(k, 0, things.size() - 1) || things.get(k).gone == is) return false;
        things.get(k).gone = is;
        return true;
    }

    static int agree(Find f, Thing t) {
        int n = 0;
        for (int b = 0; b < 8; b++) if ((f.marks >> b & 1) == (t.marks >> b & 1)) n++;
        return n;
    }

    boolean isLike(Find f, Thing t, boolean there) {
        return f.kind == t.kind && (there || !t.gone) && agree(f, t) >= reckoned(0, f.from, f.hand, f.kind, f.marks, -1);
    }

    public int like(int i, int k) {
        if (!in(i, 0, finds.size() - 1) || !in(k, 0, things.size() - 1)) return -1;
        return isLike(finds.get(i), things.get(k), false) ? 1 : 0;
    }

    List<Integer> chosen(int n) {
        List<Integer> all = new ArrayList<>();
        for (int i = 0; i < n; i++) all.add(tape.get(i));
        tape.clear();
        for (int i : all) if (i >= finds.size()) return null;
        return new HashSet<>(all).size() == n ? all : null;
    }

    private int bestGot, bestAgree;
    private List<Integer> bestRow;

    /** Rows come in their order, so the first of like ones is the least. */
    void tryRows(List<boolean[]> likes, List<Integer> all, List<Integer> row, int got, int agreed) {
        int p = row.size();
        if (p == all.size()) {
            if (bestRow == null || got > bestGot || got == bestGot && agreed > bestAgree) {
                bestGot = got; bestAgree = agreed; bestRow = new ArrayList<>(row);
            }
            return;
        }
        if (bestRow != null && got + all.size() - p < bestGot) return;
        for (int k = 0; k <= things.size(); k++) {
            int thing = k < things.size() ? k : 60;
            if (thing != 60 && (!likes.get(p)[k] || row.contains(k))) continue;
            row.add(thing);
            tryRows(likes, all, row, got + (thing == 60 ? 0 : 1), agreed + (thing == 60 ? 0 : agree(finds.get(all.get(p)), things.get(k))));
            row.remove(p);
        }
    }

    public int join(int n) {
        if (!in(n, 0, 8) || n > tape.size()) return -1;
        List<Integer> all = chosen(n);
        if (all == null) return -2;
        List<boolean[]> likes = new ArrayList<>();
        for (int i : all) {
            boolean[] row = new boolean[things.size()];
            for (int k = 0; k < row.length; k++) row[k] = isLike(finds.get(i), things.get(k), false);
            likes.add(row);
        }
        bestRow = null;
        tryRows(likes, all, new ArrayList<>(), 0, 0);
        joinedRow = bestRow;
        return bestGot;
    }

    public int joined(int i) {
        return in(i, 0, joinedRow.size() - 1) ? joinedRow.get(i) : -1;
    }

    public int lost(int n, int what) {
        if (!in(n, 0, 100) || !in(what, 0, 1) || n > tape.size()) return -1;
        List<Integer> all = chosen(n);
        if (all == null) return -2;
        List<Find> lost = new ArrayList<>();
        for (int i : all) {
            boolean some = false;
            for (Thing t : things) some |= isLike(finds.get(i), t, false);
            if (!some) lost.add(finds.get(i));
        }
        if (what == 0) return lost.size();
        int next = -1, most = 0;
        for (int m = 0; m < 10; m++) {
            int helped = 0;
            for (Find f : lost) {
                boolean some = false;
                for (Thing t : things) some |= t.museum == m && isLike(f, t, true);
                if (some) helped++;
            }
            if (helped > most) { most = helped; next = m; }
        }
        return next;
    }

    public int wall(int place, int worth) {
        if (!in(place, 0, places.size() - 1) || !in(worth, 0, 10000) || walls.size() == 30) return -1;
        Wall w = new Wall();
        w.place = place; w.worth = worth;
        walls.add(w);
        return walls.size() - 1;
    }

    public int draw(int w, int week, int features) {
        if (!in(w, 0, walls.size() - 1) || !in(week, 0, now) || !in(features, 0, 255) || drawings.size() == 100) return -1;
        return drawn(w, week, features, true);
    }

    int drawn(int w, int week, int features, boolean look) {
        Drawing d = new Drawing();
        d.number = drawings.size(); d.wall = w; d.week = week; d.features = features; d.told = now; d.look = look;
        drawings.add(d);
        return d.number;
    }

    public int copy(int i, int week) {
        if (!in(i, 0, drawings.size() - 1) || !in(week, 0, now) || drawings.size() == 100) return -1;
        return drawn(drawings.get(i).wall, week, drawings.get(i).features, false);
    }

    public int stood(int w, int f, int t, int what) {
        if (!in(w, 0, walls.size() - 1) || !in(f, 0, 7) || !week(t) || !in(what, 0, 3)) return -1;
        List<Drawing> looks = new ArrayList<>();
        for (Drawing d : drawings) if (d.look && d.wall == w && d.told <= t) looks.add(d);
        looks.sort((x, y) -> x.week != y.week ? x.week - y.week : x.number - y.number);
        int last = -1;
        for (int i = 0; i < looks.size(); i++) if ((looks.get(i).features >> f & 1) == 1) last = i;
        if (last == -1) return -1;
        if (what == 0) return looks.get(last).week;
        if (what == 1) return last + 1 < looks.size() ? looks.get(last + 1).week : -1;
        for (int i = 0; i < looks.size(); i++) {
            if ((looks.get(i).features >> f & 1) == 1) continue;
            boolean before = false;
            for (int j = 0; j < i; j++) before |= (looks.get(j).features >> f & 1) == 1;
            for (int j = i + 1; before && j < looks.size(); j++)
                if ((looks.get(j).features >> f & 1) == 1) return looks.get(what == 2 ? i : j).number;
        }
        return -1;
    }

    public boolean ash(int l, int from, int to) {
        if (!in(l, 0, 7) || !span(from, to, 99)) return false;
        spans[l] = new int[] {from, to};
        return true;
    }

    public boolean above(int a, int b) {
        if (!in(a, 0, 7) || !in(b, 0, 7) || a == b || cuts.size() == 40) return false;
        cuts.add(new int[] {a, b});
        return true;
    }

    /** HOURS are taken away one by one while a CUT leaves them without a partner. */
    int[][] hours() {
        boolean[][] may = new boolean[8][100];
        for (int l = 0; l < 8; l++) for (int h = spans[l][0]; h <= spans[l][1]; h++) may[l][h] = true;
        for (boolean moved = true; moved; ) {
            moved = false;
            for (int[] c : cuts) for (int h = 0; h < 100; h++) {
                boolean upper = false, lower = false;
                for (int g = 0; g < 100; g++) {
                    if (g < h && may[c[1]][g]) upper = true;
                    if (g > h && may[c[0]][g]) lower = true;
                }
                if (may[c[0]][h] && !upper) { may[c[0]][h] = false; moved = true; }
                if (may[c[1]][h] && !lower) { may[c[1]][h] = false; moved = true; }
            }
        }
        int[][] all = new int[8][2];
        for (int l = 0; l < 8; l++) {
            int least = -1, most = -1;
            for (int h = 0; h < 100; h++) if (may[l][h]) { if (least == -1) least = h; most = h; }
            if (least == -1) return null;
            all[l] = new int[] {least, most};
        }
        return all;
    }

    public int hour(int l, int what) {
        if (!in(l, 0, 7) || !in(what, 0, 1)) return -1;
        int[][] hours = hours();
        return hours == null ? -1 : hours[l][what];
    }

    public boolean height(int cell, int n) {
        if (!cell(cell) || !in(n, 0, 8)) return false;
        heights[cell] = n;
        return true;
    }

    public int hollow(int cell, int layer) {
        if (!cell(cell) || !in(layer, 0, 7) || hollows.size() == 40) return -1;
        hollows.add(new int[] {cell, layer});
        return hollows.size() - 1;
    }

    public int way(int i) {
        int[][] hours = hours();
        if (!in(i, 0, hollows.size() - 1) || hours == null) return -1;
        int laid = 0;
        for (int[] h : hours) if (h[1] <= hours[hollows.get(i)[1]][0]) laid++;
        int[] steps = new int[W * H];
        java.util.Arrays.fill(steps, 1000);
        steps[hollows.get(i)[0]] = 0;
        for (int round = 0; round < W * H; round++)
            for (int c = 0; c < W * H; c++) for (int d = 0; d < W * H; d++)
                if (Math.abs(c % W - d % W) <= 1 && Math.abs(c / W - d / W) <= 1 && laid < heights[d])
                    steps[d] = Math.min(steps[d], steps[c] + 1);
        int best = 1000;
        for (int c = 0; c < W * H; c++)
            if (c % W == 0 || c % W == W - 1 || c / W == 0 || c / W == H - 1) best = Math.min(best, steps[c]);
        return best == 1000 ? -2 : best;
    }

    public boolean sign(int name, int kind, int place, int week) {
        if (!in(name, 0, 29) || !in(kind, 0, 7) || !in(place, 0, places.size() - 1) || !in(week, 0, now) || signs.size() == 100) return false;
        Sign s = new Sign();
        s.name = name; s.kind = kind; s.place = place; s.week = week;
        signs.add(s);
        return true;
    }

    public int who(int place, int what) {
        if (!in(place, 0, places.size() - 1) || !in(what, 0, 2)) return -1;
        int[] worth = new int[30], n = new int[30];
        for (Sign s : signs) if (s.place == place) {
            n[s.name]++;
            worth[s.name] += reckoned(1, s.week, 0, s.kind, 0, places.get(place).kind);
        }
        int best = -1;
        for (int i = 29; i >= 0; i--) if (n[i] > 1 && worth[i] > 0 && (best == -1 || worth[i] >= worth[best])) best = i;
        if (best == -1) return -1;
        int rivals = 0;
        for (int i = 0; i < 30; i++) if (n[i] > 1 && worth[i] >= worth[best] / 2.0) rivals++;
        return what == 0 ? best : what == 1 ? worth[best] : rivals;
    }

    public int work(int w, int cost, int hundredths) {
        if (!in(w, 0, walls.size() - 1) || !in(cost, 1, 10000) || !in(hundredths, 1, 100) || works.size() == 9) return -1;
        Work k = new Work();
        k.wall = w; k.cost = cost; k.hundredths = hundredths;
        works.add(k);
        return works.size() - 1;
    }

    public int saves(int set) {
        if (!in(set, 0, (1 << works.size()) - 1)) return -1;
        int sum = 0;
        for (int w = 0; w < walls.size(); w++) {
            int saved = 0;
            for (int i = 0; i < works.size(); i++)
                if ((set >> i & 1) == 1 && works.get(i).wall == w) saved += walls.get(w).worth * works.get(i).hundredths / 100;
            sum += Math.min(saved, walls.get(w).worth);
        }
        return sum;
    }

    int cost(int set) {
        int sum = 0;
        for (int i = 0; i < works.size(); i++) if ((set >> i & 1) == 1) sum += works.get(i).cost;
        return sum;
    }

    public int best(int money) {
        if (!in(money, 0, 100000)) return -1;
        int best = -1;
        for (int set = (1 << works.size()) - 1; set >= 0; set--) {
            if (cost(set) > money) continue;
            if (best == -1 || saves(set) > saves(best) || saves(set) == saves(best) && cost(set) <= cost(best)) best = set;
        }
        return best;
    }

    public int beside(int hand) {
        if (!in(hand, 0, 7)) return -1;
        int n = 0;
        for (Find f : finds) if (Integer.bitCount(bits(f, now, hand)) == 1) n++;
        return n;
    }

    public int check(int n) {
        if (n < 0 || 12L * n > tape.size()) return -2;
        List<Integer> told = new ArrayList<>(), right = new ArrayList<>();
        for (int i = 0; i < 3 * n; i++) {
            int x = 0;
            for (int k = 0; k < 4; k++) x = x << 8 | tape.get(4 * i + k);
            told.add(x);
        }
        tape.clear();
        for (int c = 0; c < W * H; c++) for (int l = 0; l < 8; l++) {
            int g = ground(c, l, now, now);
            if (g != 0) { right.add(c); right.add(l); right.add(g); }
        }
        for (int i = 0; i < told.size(); i++) if (i >= right.size() || !told.get(i).equals(right.get(i))) return i;
        return told.size() == right.size() ? -1 : 3 * n;
    }

    public int count(int what) {
        int[] all = {now, W, H, places.size(), digs.size(), rules.size(), finds.size(), things.size(), walls.size(), drawings.size(),
            cuts.size(), hollows.size(), signs.size(), works.size(), tape.size(), tellings.size()};
        if (in(what, 0, 15)) return all[what];
        return in(what, 20, 19 + rules.size()) ? rules.get(what - 20).clauses.length : -1;
    }
}
