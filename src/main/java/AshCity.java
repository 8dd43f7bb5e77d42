import java.util.ArrayList;
import java.util.Arrays;

/**
 * A city under ash, as ../shared/DOC.md tells it. This class is the face: it looks at every argument
 * before a part of the office (the classes inside) is asked, so that the parts may trust what they get.
 */
public final class AshCity {
    public static final int NONE = -1;

    private static final int WRONG = -2;
    private static final int LAST_WEEK = 9999;
    private static final int LAYERS = 8;
    private static final int LAST_HOUR = 99;
    private static final int LAST_HAND = 7;
    private static final int LAST_KIND = 7;
    private static final int ALL_MARKS = 255;
    private static final int FEATURES = 8;
    private static final int NUMBERINGS = 4;
    private static final int LAST_NUMBER = 99;
    private static final int LEAST_SIDE = 4;
    private static final int MOST_SIDE = 10;
    private static final int MOST_CELLS = 100;
    private static final int MOST_WORTH = 10000;
    private static final int MOST_COST = 10000;
    private static final int MOST_MONEY = 100000;
    private static final int FIRST_CLAUSE_COUNT = 20;

    private final Tape tape;
    private final Plan plan;
    private final Digs digs;
    private final RuleReader reader;
    private final RuleBook book;
    private final Finds finds;
    private final Museums museums;
    private final Walls walls;
    private final AshFall fall;
    private final Signs signs;
    private int today;

    public AshCity() {
        tape = new Tape();
        plan = new Plan();
        digs = new Digs(plan);
        reader = new RuleReader();
        book = new RuleBook();
        finds = new Finds(plan, digs, book);
        museums = new Museums(finds, book);
        walls = new Walls();
        fall = new AshFall(plan);
        signs = new Signs(plan, book);
        today = 0;
    }

    public boolean city(int w, int h) {
        if (!within(w, LEAST_SIDE, MOST_SIDE) || !within(h, LEAST_SIDE, MOST_SIDE)) {
            return false;
        }
        if (plan.places > 0 || digs.size > 0 || fall.hollows > 0) {
            return false;
        }
        plan.resize(w, h);
        fall.level();
        return true;
    }

    public boolean now(int week) {
        if (!isWeek(week) || week < today) {
            return false;
        }
        today = week;
        return true;
    }

    public int place(int kind, int a, int b) {
        if (!within(kind, 0, Plan.LAST_PLACE_KIND) || !plan.isArea(a, b)) {
            return NONE;
        }
        if (plan.places >= Plan.LIMIT || plan.isTaken(a, b)) {
            return NONE;
        }
        digs.noteArea(plan.places, a, b);
        return plan.add(kind, a, b);
    }

    public int placeOf(int cell) {
        return plan.isCell(cell) ? plan.owner(cell) : NONE;
    }

    public int dig(int hand, int kind, int a, int b, int top, int bottom, int from, int to) {
        if (!within(hand, 0, LAST_HAND) || !within(kind, 0, Digs.REFILL) || !plan.isArea(a, b)) {
            return NONE;
        }
        if (!isSpan(top, bottom, LAYERS - 1) || kind == Digs.OPEN && top != 0) {
            return NONE;
        }
        if (!isSpan(from, to, today) || digs.size >= Digs.LIMIT) {
            return NONE;
        }
        digs.begin(hand, kind, a, b);
        digs.reach(top, bottom);
        return digs.finish(from, to, today);
    }

    public boolean strike(int i) {
        if (!within(i, 0, digs.size - 1) || digs.isStruck(i)) {
            return false;
        }
        digs.cross(i, today);
        return true;
    }

    public int ground(int cell, int layer, int week, int t) {
        return isSpot(cell, layer) && isWeek(week) && isWeek(t) ? digs.state(cell, layer, week, t) : NONE;
    }

    public int first(int cell, int layer, int week, int t) {
        return isSpot(cell, layer) && isWeek(week) && isWeek(t) ? digs.opener(cell, layer, week, t) : NONE;
    }

    public boolean means(int numbering, int number, int place, int from, int to) {
        if (!isNumber(numbering, number) || !isPlace(place) || !isSpan(from, to, LAST_WEEK)) {
            return false;
        }
        if (plan.tellings >= Plan.MOST_TELLINGS) {
            return false;
        }
        plan.tell(numbering, number, place, from, to);
        return true;
    }

    public int meaning(int numbering, int number, int week) {
        return isNumber(numbering, number) && isWeek(week) ? plan.meant(numbering, number, week) : NONE;
    }

    public int feed(int a, int b, int c, int d, int e) {
        if (tape.length > Tape.LIMIT - 20) {
            return NONE;
        }
        tape.append(a);
        tape.append(b);
        tape.append(c);
        tape.append(d);
        tape.append(e);
        return tape.length;
    }

    public int rules(int from, int to, int n) {
        if (!isSpan(from, to, LAST_WEEK) || !within(n, 1, RuleReader.LONGEST)) {
            return NONE;
        }
        if (book.size() >= RuleBook.LIMIT || n > tape.length) {
            return NONE;
        }
        tape.clear();
        int fault = reader.read(tape.bytes, n);
        return fault != 0 ? fault : book.add(from, to, reader.text());
    }

    public int number(int which, int week, int h, int k, int m, int place) {
        if (!within(which, 0, 3) || !isWeek(week) || !within(h, 0, LAST_HAND)) {
            return NONE;
        }
        if (!within(k, 0, LAST_KIND) || !within(m, 0, ALL_MARKS) || place != NONE && !isPlace(place)) {
            return NONE;
        }
        book.ask(week, h, k, m, place == NONE ? NONE : plan.kind[place]);
        switch (which) {
            case 0:
                return book.marksWanted();
            case 1:
                return book.signWorth();
            case 2:
                return book.deepest();
            default:
                return book.lines();
        }
    }

    public int find(int hand, int from, int to, int number, int top, int bottom, int kind, int marks) {
        if (!within(hand, 0, LAST_HAND) || !isSpan(from, to, today) || to - from >= Finds.MOST_WEEKS) {
            return NONE;
        }
        if (!within(number, 0, LAST_NUMBER) || !isSpan(top, bottom, LAYERS - 1)) {
            return NONE;
        }
        if (!within(kind, 0, LAST_KIND) || !within(marks, 0, ALL_MARKS) || finds.size >= Finds.LIMIT) {
            return NONE;
        }
        finds.begin(hand, number, kind, marks);
        finds.reach(top, bottom);
        return finds.finish(from, to, today);
    }

    public int may(int i, int t) {
        if (!isFind(i) || !isWeek(t) || !finds.isKnown(i, t)) {
            return NONE;
        }
        return finds.placesOf(i, t, NONE);
    }

    public int sure(int t) {
        return isWeek(t) ? finds.countSure(t, NONE) : NONE;
    }

    public int nowhere(int k, int t) {
        return k >= 0 && isWeek(t) ? finds.unplaced(k, t) : NONE;
    }

    public int barred(int i) {
        if (!within(i, 0, digs.size - 1) || digs.kind[i] == Digs.REFILL) {
            return NONE;
        }
        book.ask(digs.from[i], digs.hand[i], digs.kind[i], 0, NONE);
        return digs.bottom[i] > book.deepest() ? 1 : 0;
    }

    public int thing(int museum, int kind, int marks) {
        if (!within(museum, 0, Museums.MUSEUMS - 1) || !within(kind, 0, LAST_KIND)) {
            return NONE;
        }
        if (!within(marks, 0, ALL_MARKS) || museums.things >= Museums.LIMIT) {
            return NONE;
        }
        return museums.add(museum, kind, marks);
    }

    public boolean gone(int k, boolean is) {
        if (!within(k, 0, museums.things - 1) || museums.missing[k] == is) {
            return false;
        }
        museums.missing[k] = is;
        return true;
    }

    public int like(int i, int k) {
        if (!isFind(i) || !within(k, 0, museums.things - 1)) {
            return NONE;
        }
        return !museums.missing[k] && museums.fits(i, k, museums.marksNeeded(i)) ? 1 : 0;
    }

    public int join(int n) {
        if (!within(n, 0, Museums.MOST_JOINED) || n > tape.length) {
            return NONE;
        }
        tape.clear();
        return museums.choose(tape.bytes, n) ? museums.match() : WRONG;
    }

    public int joined(int i) {
        return within(i, 0, museums.rowSize - 1) ? museums.row[i] : NONE;
    }

    public int lost(int n, int what) {
        if (!within(n, 0, Museums.MOST_CHOSEN) || !within(what, 0, 1) || n > tape.length) {
            return NONE;
        }
        tape.clear();
        if (!museums.choose(tape.bytes, n)) {
            return WRONG;
        }
        museums.keepLost();
        return what == 0 ? museums.chosen : museums.nextToLook();
    }

    public int wall(int place, int worth) {
        if (!isPlace(place) || !within(worth, 0, MOST_WORTH) || walls.size >= Walls.LIMIT) {
            return NONE;
        }
        return walls.add(worth);
    }

    public int draw(int w, int week, int features) {
        if (!isWall(w) || !within(week, 0, today) || !within(features, 0, (1 << FEATURES) - 1)) {
            return NONE;
        }
        return walls.drawings < Walls.MOST_DRAWINGS ? walls.look(w, week, features, today) : NONE;
    }

    public int copy(int i, int week) {
        if (!within(i, 0, walls.drawings - 1) || !within(week, 0, today)) {
            return NONE;
        }
        return walls.drawings < Walls.MOST_DRAWINGS ? walls.trace() : NONE;
    }

    public int stood(int w, int f, int t, int what) {
        if (!isWall(w) || !within(f, 0, FEATURES - 1) || !isWeek(t) || !within(what, 0, 3)) {
            return NONE;
        }
        walls.review(w, f, t);
        switch (what) {
            case 0:
                return walls.weekOf(walls.lastSeen);
            case 1:
                return walls.weekOf(walls.nextLacking);
            case 2:
                return walls.quarrelLacks;
            default:
                return walls.quarrelHas;
        }
    }

    public boolean ash(int l, int from, int to) {
        if (!isLayer(l) || !isSpan(from, to, LAST_HOUR)) {
            return false;
        }
        fall.from[l] = from;
        fall.to[l] = to;
        return true;
    }

    public boolean above(int a, int b) {
        if (!isLayer(a) || !isLayer(b) || a == b || fall.cuts >= AshFall.MOST_CUTS) {
            return false;
        }
        fall.cut(a, b);
        return true;
    }

    public int hour(int l, int what) {
        if (!isLayer(l) || !within(what, 0, 1) || !fall.reckon()) {
            return NONE;
        }
        return what == 0 ? fall.earliest[l] : fall.latest[l];
    }

    public boolean height(int cell, int n) {
        if (!plan.isCell(cell) || !within(n, 0, LAYERS)) {
            return false;
        }
        fall.height[cell] = n;
        return true;
    }

    public int hollow(int cell, int layer) {
        return isSpot(cell, layer) && fall.hollows < AshFall.MOST_HOLLOWS ? fall.add(cell, layer) : NONE;
    }

    public int way(int i) {
        return within(i, 0, fall.hollows - 1) && fall.reckon() ? fall.stepsOut(i) : NONE;
    }

    public boolean sign(int name, int kind, int place, int week) {
        if (!within(name, 0, Signs.NAMES - 1) || !within(kind, 0, LAST_KIND) || !isPlace(place)) {
            return false;
        }
        if (!within(week, 0, today) || signs.size >= Signs.LIMIT) {
            return false;
        }
        signs.add(name, kind, place, week);
        return true;
    }

    public int who(int place, int what) {
        if (!isPlace(place) || !within(what, 0, 2)) {
            return NONE;
        }
        signs.weigh(place);
        int name = signs.strongest();
        if (name == NONE || what == 0) {
            return name;
        }
        return what == 1 ? signs.worth[name] : signs.rivals(signs.worth[name]);
    }

    public int work(int w, int cost, int hundredths) {
        if (!isWall(w) || !within(cost, 1, MOST_COST) || !within(hundredths, 1, 100)) {
            return NONE;
        }
        return walls.works < Walls.MOST_WORKS ? walls.undertake(w, cost, hundredths) : NONE;
    }

    public int best(int money) {
        return within(money, 0, MOST_MONEY) ? walls.bestSet(money) : NONE;
    }

    public int saves(int set) {
        return within(set, 0, (1 << walls.works) - 1) ? walls.savedBy(set) : NONE;
    }

    public int beside(int hand) {
        return within(hand, 0, LAST_HAND) ? finds.countSure(today, hand) : NONE;
    }

    public int check(int n) {
        if (n < 0 || n > tape.length / 12) {
            return WRONG;
        }
        tape.clear();
        int told = 0;
        for (int cell = 0; cell < plan.cells(); cell++) {
            for (int layer = 0; layer < LAYERS; layer++) {
                int state = digs.state(cell, layer, today, today);
                if (state == Digs.KEPT) {
                    continue;
                }
                int wrong = told < n ? firstWrong(told, cell, layer, state) : 0;
                if (wrong != NONE) {
                    return 3 * told + wrong;
                }
                told++;
            }
        }
        return told < n ? 3 * told : NONE;
    }

    public int count(int what) {
        if (within(what, FIRST_CLAUSE_COUNT, FIRST_CLAUSE_COUNT + book.size() - 1)) {
            return book.clauses(what - FIRST_CLAUSE_COUNT);
        }
        switch (what) {
            case 0:
                return today;
            case 1:
                return plan.width;
            case 2:
                return plan.height;
            case 3:
                return plan.places;
            case 4:
                return digs.size;
            case 5:
                return book.size();
            case 6:
                return finds.size;
            case 7:
                return museums.things;
            default:
                return countLater(what);
        }
    }

    private int countLater(int what) {
        switch (what) {
            case 8:
                return walls.size;
            case 9:
                return walls.drawings;
            case 10:
                return fall.cuts;
            case 11:
                return fall.hollows;
            case 12:
                return signs.size;
            case 13:
                return walls.works;
            case 14:
                return tape.length;
            case 15:
                return plan.tellings;
            default:
                return NONE;
        }
    }

    /** Which of the three numbers told at this place of the tape is not so (0 to 2), or NONE. */
    private int firstWrong(int three, int cell, int layer, int state) {
        if (tape.whole(3 * three) != cell) {
            return 0;
        }
        if (tape.whole(3 * three + 1) != layer) {
            return 1;
        }
        return tape.whole(3 * three + 2) != state ? 2 : NONE;
    }

    private static boolean within(int x, int least, int most) {
        return least <= x && x <= most;
    }

    private static boolean isSpan(int from, int to, int last) {
        return 0 <= from && from <= to && to <= last;
    }

    private static boolean isWeek(int week) {
        return within(week, 0, LAST_WEEK);
    }

    private static boolean isLayer(int layer) {
        return within(layer, 0, LAYERS - 1);
    }

    private static boolean isNumber(int numbering, int number) {
        return within(numbering, 0, NUMBERINGS - 1) && within(number, 1, LAST_NUMBER);
    }

    private boolean isSpot(int cell, int layer) {
        return plan.isCell(cell) && isLayer(layer);
    }

    private boolean isPlace(int place) {
        return within(place, 0, plan.places - 1);
    }

    private boolean isFind(int i) {
        return within(i, 0, finds.size - 1);
    }

    private boolean isWall(int w) {
        return within(w, 0, walls.size - 1);
    }

    /** The bytes that were fed. What was told stays readable behind clear(), until it is fed again. */
    private static final class Tape {
        static final int LIMIT = 400;

        final byte[] bytes = new byte[LIMIT];
        int length;

        void append(int four) {
            for (int shift = 24; shift >= 0 && length < LIMIT; shift -= 8) {
                bytes[length] = (byte) (four >> shift);
                length++;
            }
        }

        void clear() {
            length = 0;
        }

        int whole(int i) {
            if (i < 0 || i > LIMIT / 4 - 1) {
                return 0;
            }
            int value = 0;
            for (int k = 0; k < 4; k++) {
                value = value << 8 | bytes[4 * i + k] & 255;
            }
            return value;
        }
    }

    /** CELLS, the PLACES on them, and what NUMBERS meant by the NUMBERINGS. */
    private static final class Plan {
        static final int LIMIT = 30;
        static final int LAST_PLACE_KIND = 2;
        static final int MOST_TELLINGS = 200;

        int width = 8;
        int height = 8;
        int places;
        final int[] kind = new int[LIMIT];
        private final int[] upperLeft = new int[LIMIT];
        private final int[] lowerRight = new int[LIMIT];
        int tellings;
        private final int[] toldKey = new int[MOST_TELLINGS];
        private final int[] toldPlace = new int[MOST_TELLINGS];
        private final int[] from = new int[MOST_TELLINGS];
        private final int[] to = new int[MOST_TELLINGS];

        void resize(int w, int h) {
            width = w;
            height = h;
        }

        int cells() {
            return width * height;
        }

        boolean isCell(int cell) {
            return 0 <= cell && cell < cells();
        }

        int column(int cell) {
            return width > 0 ? cell % width : 0;
        }

        int row(int cell) {
            return width > 0 ? cell / width : 0;
        }

        boolean isArea(int a, int b) {
            return isCell(a) && isCell(b) && column(a) <= column(b) && row(a) <= row(b);
        }

        /** Whether the rectangle from a to b and the one from c to d have a CELL in common. */
        boolean meet(int a, int b, int c, int d) {
            return column(a) <= column(d) && column(c) <= column(b) && row(a) <= row(d) && row(c) <= row(b);
        }

        boolean isTaken(int a, int b) {
            return placesIn(a, b) != 0;
        }

        /** The PLACES that have a CELL of a rectangle, as bits. */
        int placesIn(int a, int b) {
            int bits = 0;
            for (int i = 0; i < places; i++) {
                if (meet(a, b, upperLeft[i], lowerRight[i])) {
                    bits |= 1 << i;
                }
            }
            return bits;
        }

        int owner(int cell) {
            int bits = placesIn(cell, cell);
            return bits == 0 ? NONE : Integer.numberOfTrailingZeros(bits);
        }

        int add(int ofKind, int a, int b) {
            kind[places] = ofKind;
            upperLeft[places] = a;
            lowerRight[places] = b;
            places++;
            return places - 1;
        }

        void tell(int numbering, int number, int place, int first, int last) {
            toldKey[tellings] = key(numbering, number);
            toldPlace[tellings] = place;
            from[tellings] = first;
            to[tellings] = last;
            tellings++;
        }

        /** From the latest telling down, as the latest one for a WEEK counts. */
        int meant(int numbering, int number, int week) {
            int wanted = key(numbering, number);
            for (int i = tellings - 1; i >= 0; i--) {
                if (toldKey[i] == wanted && from[i] <= week && week <= to[i]) {
                    return toldPlace[i];
                }
            }
            return NONE;
        }

        private static int key(int numbering, int number) {
            return numbering * 100 + number;
        }
    }

    /** DIGS, and THE GROUND as they left it. */
    private static final class Digs {
        static final int LIMIT = 100;
        static final int OPEN = 0;
        static final int TUNNEL = 1;
        static final int REFILL = 2;
        static final int KEPT = 0;
        static final int TUNNELLED = 1;
        static final int OPENED = 2;
        static final int REFILLED = 3;
        private static final int NEVER = LAST_WEEK + 1;

        private final Plan plan;
        int size;
        final int[] hand = new int[LIMIT];
        final int[] kind = new int[LIMIT];
        private final int[] upperLeft = new int[LIMIT];
        private final int[] lowerRight = new int[LIMIT];
        private final int[] top = new int[LIMIT];
        final int[] bottom = new int[LIMIT];
        final int[] from = new int[LIMIT];
        final int[] to = new int[LIMIT];
        private final int[] told = new int[LIMIT];
        private final int[] struck = new int[LIMIT];
        final int[] touched = new int[LIMIT];
        private final int[] order = new int[LIMIT];

        Digs(Plan plan) {
            this.plan = plan;
        }

        /** A DIG is told in three steps (begin, reach, finish); it is there with the last of them. */
        void begin(int byHand, int ofKind, int a, int b) {
            hand[size] = byHand;
            kind[size] = ofKind;
            upperLeft[size] = a;
            lowerRight[size] = b;
            touched[size] = plan.placesIn(a, b);
        }

        void reach(int upper, int lower) {
            top[size] = upper;
            bottom[size] = lower;
        }

        int finish(int first, int last, int week) {
            from[size] = first;
            to[size] = last;
            told[size] = week;
            struck[size] = NEVER;
            int at = size;
            while (at > 0 && from[order[at - 1]] > first) {
                order[at] = order[at - 1];
                at--;
            }
            order[at] = size;
            size++;
            return size - 1;
        }

        /** A PLACE may be told behind the DIGS that touch it. */
        void noteArea(int place, int a, int b) {
            for (int i = 0; i < size; i++) {
                if (plan.meet(a, b, upperLeft[i], lowerRight[i])) {
                    touched[i] |= 1 << place;
                }
            }
        }

        boolean isStruck(int i) {
            return struck[i] != NEVER;
        }

        void cross(int i, int week) {
            struck[i] = week;
        }

        private boolean isKnown(int i, int t) {
            return told[i] <= t && t < struck[i];
        }

        /** Whether DIG i may have brought up what a HAND found between two LAYERS. */
        boolean serves(int i, int byHand, int upper, int lower, int t) {
            return hand[i] == byHand && kind[i] != REFILL && top[i] <= lower && upper <= bottom[i] && isKnown(i, t);
        }

        private boolean cuts(int i, int cell, int layer) {
            return top[i] <= layer && layer <= bottom[i] && plan.meet(cell, cell, upperLeft[i], lowerRight[i]);
        }

        int state(int cell, int layer, int week, int t) {
            int state = KEPT;
            for (int n = 0; n < size && from[order[n]] <= week; n++) {
                int i = order[n];
                if (isKnown(i, t) && cuts(i, cell, layer)) {
                    state = after(state, kind[i]);
                }
            }
            return state;
        }

        private static int after(int state, int ofKind) {
            if (ofKind == OPEN) {
                return OPENED;
            }
            if (ofKind == TUNNEL) {
                return state == KEPT ? TUNNELLED : state;
            }
            return state == KEPT ? KEPT : REFILLED;
        }

        int opener(int cell, int layer, int week, int t) {
            for (int n = 0; n < size && from[order[n]] <= week; n++) {
                int i = order[n];
                if (kind[i] != REFILL && isKnown(i, t) && cuts(i, cell, layer)) {
                    return i;
                }
            }
            return NONE;
        }
    }

    /** Reads a TEXT of RULES from the left on, up to its first FAULT, and writes its CLAUSES as steps. */
    private static final class RuleReader {
        static final int LONGEST = 160;
        private static final int MOST_CLAUSES = 10;
        private static final int MOST_OPEN = 6;
        private static final int MOST_DIGITS = 5;
        private static final int MOST_VALUE = 99999;
        private static final int NOT_HERE = 1;
        private static final int SIXTH_DIGIT = 2;
        private static final int BAD_NUMBER = 3;
        private static final int TOO_MANY_CLAUSES = 4;
        private static final int TOO_DEEP = 5;

        private byte[] bytes = new byte[0];
        private int length;
        private int at;
        private int fault;
        private int clauses;
        private int steps;
        private final int[] letter = new int[MOST_CLAUSES];
        private final int[] value = new int[MOST_CLAUSES];
        private final int[] target = new int[MOST_CLAUSES];
        private final int[] codeEnd = new int[MOST_CLAUSES];
        private final int[] code = new int[LONGEST];

        /** 0, or the answer for the first FAULT. */
        int read(byte[] tape, int n) {
            bytes = tape;
            length = Math.min(n, tape.length);
            at = 0;
            fault = 0;
            clauses = 0;
            steps = 0;
            clause();
            for (int i = 0; i < length && take(';'); i++) {
                clause();
            }
            if (at < length) {
                refuse(NOT_HERE, at);
            }
            return fault;
        }

        RuleText text() {
            return new RuleText(Arrays.copyOf(letter, clauses), Arrays.copyOf(value, clauses),
                    Arrays.copyOf(target, clauses), Arrays.copyOf(codeEnd, clauses), Arrays.copyOf(code, steps));
        }

        private void clause() {
            int sign = peek();
            int highest = highestOf(sign);
            if (highest == NONE) {
                refuse(NOT_HERE, at);
                return;
            }
            if (clauses >= MOST_CLAUSES) {
                refuse(TOO_MANY_CLAUSES, at);
                return;
            }
            at++;
            letter[clauses] = sign;
            value[clauses] = digits(highest);
            target[clauses] = 0;
            if (sign == 'x') {
                expect('.');
                target[clauses] = digits(MOST_CLAUSES - 1);
            } else if (take('(')) {
                condition(1);
                expect(')');
            }
            codeEnd[clauses] = steps;
            clauses++;
        }

        /** The highest number behind a CLAUSE's letter; NONE if that is no such letter. */
        private static int highestOf(int sign) {
            switch (sign) {
                case 'n':
                    return NUMBERINGS - 1;
                case 'a':
                    return 8;
                case 'v':
                    return 99;
                case 'f':
                    return LAYERS - 1;
                case 'x':
                    return RuleBook.LIMIT - 1;
                default:
                    return NONE;
            }
        }

        /** The argument of the methods from here on: how many of ( [ ! are open, which keeps them shallow. */
        private void condition(int open) {
            part(open);
            for (int i = 0; i < length && take('|'); i++) {
                int fork = write(-'|');
                part(open);
                land(fork);
            }
        }

        private void part(int open) {
            piece(open);
            for (int i = 0; i < length && take('&'); i++) {
                int fork = write(-'&');
                piece(open);
                land(fork);
            }
        }

        private void piece(int open) {
            int sign = peek();
            if (sign == '!') {
                if (opens(open)) {
                    piece(open + 1);
                    write(-'!');
                }
            } else if (sign == '(') {
                if (opens(open)) {
                    condition(open + 1);
                    expect(')');
                }
            } else {
                sum(open);
                int comparison = peek();
                if (comparison == '<' || comparison == '>' || comparison == '=') {
                    at++;
                    sum(open);
                    write(-comparison);
                } else {
                    refuse(NOT_HERE, at);
                }
            }
        }

        private void sum(int open) {
            term(open);
            for (int i = 0; i < length && (peek() == '+' || peek() == '-'); i++) {
                int sign = peek();
                at++;
                term(open);
                write(-sign);
            }
        }

        private void term(int open) {
            factor(open);
            for (int i = 0; i < length && (peek() == '*' || peek() == '/' || peek() == '%'); i++) {
                int sign = peek();
                at++;
                factor(open);
                write(-sign);
            }
        }

        private void factor(int open) {
            int sign = peek();
            int known = letterOf(sign);
            if (sign == '[') {
                if (opens(open)) {
                    sum(open + 1);
                    expect(']');
                }
            } else if (known != NONE) {
                at++;
                write(RuleText.FIRST_LETTER + known);
            } else {
                write(digits(MOST_VALUE));
            }
        }

        private static int letterOf(int sign) {
            switch (sign) {
                case 'w':
                    return RuleText.WEEK;
                case 'h':
                    return RuleText.HAND;
                case 'k':
                    return RuleText.KIND;
                case 'm':
                    return RuleText.MARKS;
                case 'p':
                    return RuleText.PLACE_KIND;
                default:
                    return NONE;
            }
        }

        private int digits(int highest) {
            int begin = at;
            int number = 0;
            for (int i = 0; i <= MOST_DIGITS && within(peek(), '0', '9'); i++) {
                if (i == MOST_DIGITS) {
                    refuse(SIXTH_DIGIT, at);
                    return 0;
                }
                number = number * 10 + peek() - '0';
                at++;
            }
            if (at == begin) {
                refuse(NOT_HERE, at);
            } else if (number > highest) {
                refuse(BAD_NUMBER, begin);
            }
            return number;
        }

        /** The sign that comes next; NONE at the end, and behind a FAULT, so that all that reads comes to its end. */
        private int peek() {
            return fault == 0 && at < length ? bytes[at] & 255 : NONE;
        }

        private boolean take(char sign) {
            if (peek() != sign) {
                return false;
            }
            at++;
            return true;
        }

        private void expect(char sign) {
            if (!take(sign)) {
                refuse(NOT_HERE, at);
            }
        }

        private boolean opens(int open) {
            if (open >= MOST_OPEN) {
                refuse(TOO_DEEP, at);
                return false;
            }
            at++;
            return true;
        }

        private void refuse(int kind, int where) {
            if (fault == 0) {
                fault = -1000 * kind - where;
            }
        }

        private int write(int step) {
            if (steps < LONGEST) {
                code[steps] = step;
                steps++;
            }
            return steps - 1;
        }

        /** A fork leaps over what was written behind it: only its own right side need not be asked. */
        private void land(int fork) {
            if (fork >= 0 && fork < steps) {
                code[fork] -= (steps - 1 - fork) * RuleText.LEAP;
            }
        }
    }

    /**
     * One TEXT of RULES. Its conditions are steps for a stack: a number as it is, a letter from FIRST_LETTER on,
     * a sign below 0, and how far a fork leaps in units of LEAP.
     */
    private static final class RuleText {
        static final int WEEK = 0;
        static final int HAND = 1;
        static final int KIND = 2;
        static final int MARKS = 3;
        static final int PLACE_KIND = 4;
        static final int LETTERS = 5;
        static final int FIRST_LETTER = 100000;
        static final int LEAP = 256;

        private final int[] letter;
        private final int[] value;
        private final int[] target;
        private final int[] codeEnd;
        private final int[] code;

        RuleText(int[] letter, int[] value, int[] target, int[] codeEnd, int[] code) {
            this.letter = letter;
            this.value = value;
            this.target = target;
            this.codeEnd = codeEnd;
            this.code = code;
        }

        int clauses() {
            return letter.length;
        }

        /** By the x that count: adds to each row of bits the CLAUSES struck in the RULES of that number below it. */
        void strikeIn(int[] struck, int own) {
            for (int c = 0; c < letter.length; c++) {
                if (letter[c] == 'x' && (struck[own] >> c & 1) == 0 && value[c] < own) {
                    struck[value[c]] |= 1 << target[c];
                }
            }
        }

        /** N of the last CLAUSE of a letter that counts and holds, or NONE. */
        int lastOf(char wanted, int struck, int[] letters, int[] stack) {
            for (int c = letter.length - 1; c >= 0; c--) {
                if (letter[c] == wanted && (struck >> c & 1) == 0 && holds(c, letters, stack)) {
                    return value[c];
                }
            }
            return NONE;
        }

        /** NUMBERINGS of all CLAUSES n that count and hold, as bits. */
        int lines(int struck, int[] letters, int[] stack) {
            int bits = 0;
            for (int c = 0; c < letter.length; c++) {
                if (letter[c] == 'n' && (struck >> c & 1) == 0 && holds(c, letters, stack)) {
                    bits |= 1 << value[c];
                }
            }
            return bits;
        }

        /** What is divided by 0 is REFUSED: then the whole condition does not hold, whatever stands around it. */
        private boolean holds(int c, int[] letters, int[] stack) {
            int begin = c == 0 ? 0 : codeEnd[c - 1];
            int size = 0;
            for (int at = begin; at < codeEnd[c]; at++) {
                int step = code[at];
                int sign = -step & LEAP - 1;
                if (step >= 0) {
                    if (size >= stack.length) {
                        return false;
                    }
                    stack[size] = step < FIRST_LETTER ? step : letters[step - FIRST_LETTER];
                    size++;
                } else if (size < 1) {
                    return false;
                } else if (sign == '!') {
                    stack[size - 1] = 1 - stack[size - 1];
                } else if (sign == '&' || sign == '|') {
                    int settling = sign == '|' ? 1 : 0;
                    if (stack[size - 1] == settling) {
                        at += -step / LEAP;
                    } else {
                        size--;
                    }
                } else if (size < 2 || stack[size - 1] == 0 && (sign == '/' || sign == '%')) {
                    return false;
                } else {
                    size--;
                    stack[size - 1] = reckon(sign, stack[size - 1], stack[size]);
                }
            }
            return size == 0 || stack[0] == 1;
        }

        private static int reckon(int sign, int a, int b) {
            switch (sign) {
                case '+':
                    return a + b;
                case '-':
                    return a - b;
                case '*':
                    return a * b;
                case '/':
                    return b == 0 ? 0 : a / b;
                case '%':
                    return b == 0 ? 0 : a % b;
                case '<':
                    return a < b ? 1 : 0;
                case '>':
                    return a > b ? 1 : 0;
                default:
                    return a == b ? 1 : 0;
            }
        }
    }

    /** RULES as they are in FORCE, asked by letters that ask() sets. */
    private static final class RuleBook {
        static final int LIMIT = 20;
        private static final int STACK = 32;

        private final ArrayList<RuleText> texts = new ArrayList<>();
        private final int[] from = new int[LIMIT];
        private final int[] to = new int[LIMIT];
        private final int[] struck = new int[LIMIT];
        private final int[] letters = new int[RuleText.LETTERS];
        private final int[] stack = new int[STACK];

        int size() {
            return texts.size();
        }

        int clauses(int i) {
            return texts.get(i).clauses();
        }

        int add(int first, int last, RuleText text) {
            from[texts.size()] = first;
            to[texts.size()] = last;
            texts.add(text);
            return texts.size() - 1;
        }

        void ask(int week, int h, int k, int m, int p) {
            letters[RuleText.WEEK] = week;
            letters[RuleText.HAND] = h;
            letters[RuleText.KIND] = k;
            letters[RuleText.MARKS] = m;
            letters[RuleText.PLACE_KIND] = p;
        }

        int marksWanted() {
            return highestOf('a', 8);
        }

        int signWorth() {
            return highestOf('v', 0);
        }

        int deepest() {
            return highestOf('f', LAYERS - 1);
        }

        /** NUMBERINGS by which lines may be, as bits. */
        int lines() {
            int bits = 0;
            Arrays.fill(struck, 0);
            for (int i = texts.size() - 1; i >= 0; i--) {
                if (isInForce(i)) {
                    texts.get(i).strikeIn(struck, i);
                    bits |= texts.get(i).lines(struck[i], letters, stack);
                }
            }
            return bits == 0 ? (1 << NUMBERINGS) - 1 : bits;
        }

        private int highestOf(char letter, int without) {
            Arrays.fill(struck, 0);
            for (int i = texts.size() - 1; i >= 0; i--) {
                if (isInForce(i)) {
                    texts.get(i).strikeIn(struck, i);
                    int value = texts.get(i).lastOf(letter, struck[i], letters, stack);
                    if (value != NONE) {
                        return value;
                    }
                }
            }
            return without;
        }

        private boolean isInForce(int i) {
            return from[i] <= letters[RuleText.WEEK] && letters[RuleText.WEEK] <= to[i];
        }
    }

    /** FINDS, and the PLACES of which they MAY BE. */
    private static final class Finds {
        static final int LIMIT = 150;
        static final int MOST_WEEKS = 20;

        private final Plan plan;
        private final Digs digs;
        private final RuleBook book;
        int size;
        private final int[] hand = new int[LIMIT];
        private final int[] from = new int[LIMIT];
        private final int[] to = new int[LIMIT];
        private final int[] number = new int[LIMIT];
        private final int[] top = new int[LIMIT];
        private final int[] bottom = new int[LIMIT];
        final int[] kind = new int[LIMIT];
        final int[] marks = new int[LIMIT];
        private final int[] told = new int[LIMIT];
        private final int[] dugIn = new int[MOST_WEEKS];
        private final int[] linesOfKind = new int[Plan.LAST_PLACE_KIND + 1];

        Finds(Plan plan, Digs digs, RuleBook book) {
            this.plan = plan;
            this.digs = digs;
            this.book = book;
        }

        /** A FIND is told in three steps (begin, reach, finish); it is there with the last of them. */
        void begin(int byHand, int ofNumber, int ofKind, int withMarks) {
            hand[size] = byHand;
            number[size] = ofNumber;
            kind[size] = ofKind;
            marks[size] = withMarks;
        }

        void reach(int upper, int lower) {
            top[size] = upper;
            bottom[size] = lower;
        }

        int finish(int first, int last, int week) {
            from[size] = first;
            to[size] = last;
            told[size] = week;
            size++;
            return size - 1;
        }

        boolean isKnown(int i, int t) {
            return told[i] <= t;
        }

        /** Sets the letters to those of FIND i on its first WEEK, without a PLACE. */
        void askFor(int i) {
            book.ask(from[i], hand[i], kind[i], marks[i], NONE);
        }

        /** PLACES of which FIND i MAY BE, as bits, with another HAND in RULES than its own if one is told. */
        int placesOf(int i, int t, int otherHand) {
            gatherDug(i, t);
            int ruleHand = otherHand == NONE ? hand[i] : otherHand;
            int found = 0;
            for (int week = from[i]; week <= to[i]; week++) {
                int dug = dugIn[week - from[i]] & ~found;
                if (dug != 0) {
                    found |= number[i] == 0 ? dug : named(i, week, dug, ruleHand);
                }
            }
            return found;
        }

        /** By WEEKS of FIND i: the PLACES in which its HAND dug at its LAYERS, as bits. */
        private void gatherDug(int i, int t) {
            Arrays.fill(dugIn, 0);
            for (int d = 0; d < digs.size; d++) {
                if (digs.serves(d, hand[i], top[i], bottom[i], t)) {
                    int last = Math.min(to[i], digs.to[d]);
                    for (int week = Math.max(from[i], digs.from[d]); week <= last; week++) {
                        dugIn[week - from[i]] |= digs.touched[d];
                    }
                }
            }
        }

        /** Those of some PLACES that the NUMBER of FIND i means on a WEEK by a NUMBERING by which lines may be. */
        private int named(int i, int week, int dug, int ruleHand) {
            int found = 0;
            Arrays.fill(linesOfKind, NONE);
            for (int n = 0; n < NUMBERINGS; n++) {
                int place = plan.meant(n, number[i], week);
                if (place == NONE || (dug >> place & 1) == 0) {
                    continue;
                }
                int p = plan.kind[place];
                if (linesOfKind[p] == NONE) {
                    book.ask(week, ruleHand, kind[i], marks[i], p);
                    linesOfKind[p] = book.lines();
                }
                if ((linesOfKind[p] >> n & 1) == 1) {
                    found |= 1 << place;
                }
            }
            return found;
        }

        int countSure(int t, int otherHand) {
            int found = 0;
            for (int i = 0; i < size; i++) {
                if (isKnown(i, t) && Integer.bitCount(placesOf(i, t, otherHand)) == 1) {
                    found++;
                }
            }
            return found;
        }

        /** The k-th FIND that is NOWHERE. */
        int unplaced(int k, int t) {
            int left = k;
            for (int i = 0; i < size; i++) {
                if (isKnown(i, t) && placesOf(i, t, NONE) == 0) {
                    if (left == 0) {
                        return i;
                    }
                    left--;
                }
            }
            return NONE;
        }
    }

    /** THINGS in MUSEUMS, and FINDS JOINED to them or LOST. */
    private static final class Museums {
        static final int LIMIT = 60;
        static final int MUSEUMS = 10;
        static final int MOST_JOINED = 8;
        static final int MOST_CHOSEN = 100;
        private static final int MARKS = 8;
        private static final long ROWS = 191707312997281L;
        private static final long[] UNITS = {
            3142742836021L, 51520374361L, 844596301L, 13845841L, 226981L, 3721L, 61L, 1L};

        private final Finds finds;
        private final RuleBook book;
        int things;
        private final int[] museum = new int[LIMIT];
        private final int[] kind = new int[LIMIT];
        private final int[] marks = new int[LIMIT];
        final boolean[] missing = new boolean[LIMIT];
        int chosen;
        private final int[] choice = new int[MOST_CHOSEN];
        private final int[] wanted = new int[MOST_CHOSEN];
        int rowSize;
        final int[] row = new int[MOST_JOINED];
        private final long[] gain = new long[MOST_JOINED];
        private final long[] best = new long[1 << MOST_JOINED];
        private final int[] helped = new int[MUSEUMS];

        Museums(Finds finds, RuleBook book) {
            this.finds = finds;
            this.book = book;
        }

        int add(int inMuseum, int ofKind, int withMarks) {
            museum[things] = inMuseum;
            kind[things] = ofKind;
            marks[things] = withMarks;
            missing[things] = false;
            things++;
            return things - 1;
        }

        /** How many MARKS must agree for FIND i. */
        int marksNeeded(int i) {
            finds.askFor(i);
            return book.marksWanted();
        }

        private int agreeing(int i, int k) {
            return MARKS - Integer.bitCount(finds.marks[i] ^ marks[k]);
        }

        /** Whether FIND i would be LIKE THING k if that were not GONE. */
        boolean fits(int i, int k, int least) {
            return finds.kind[i] == kind[k] && agreeing(i, k) >= least;
        }

        /** Takes FINDS from n bytes; false: no such FINDS, one twice. */
        boolean choose(byte[] bytes, int n) {
            chosen = 0;
            for (int p = 0; p < n && p < MOST_CHOSEN; p++) {
                int i = bytes[p] & 255;
                if (i >= finds.size || isChosen(i)) {
                    return false;
                }
                choice[chosen] = i;
                wanted[chosen] = marksNeeded(i);
                chosen++;
            }
            return true;
        }

        private boolean isChosen(int i) {
            for (int p = 0; p < chosen; p++) {
                if (choice[p] == i) {
                    return true;
                }
            }
            return false;
        }

        /**
         * One sum tells how good a row is: 65 and the MARKS that agree for each FIND that gets a THING, in units of
         * ROWS; below that the row itself to the base of 61, the least one greatest. So the row can be read from the
         * best sum. best[set] is that of the FINDS of a set, by the THINGS that were offered so far.
         */
        int match() {
            int sets = 1 << chosen;
            Arrays.fill(best, NONE);
            best[0] = 0;
            for (int k = 0; k < things; k++) {
                if (offer(k)) {
                    for (int set = sets - 1; set > 0; set--) {
                        best[set] = Math.max(best[set], bestWithLast(set));
                    }
                }
            }
            long top = 0;
            for (int set = 1; set < sets; set++) {
                top = Math.max(top, best[set]);
            }
            return readRow(top % ROWS);
        }

        /** Sets what THING k would add for each FIND (0: they are not LIKE); false: for none. */
        private boolean offer(int k) {
            boolean some = false;
            for (int p = 0; p < chosen; p++) {
                int i = choice[p];
                gain[p] = 0;
                if (!missing[k] && fits(i, k, wanted[p])) {
                    gain[p] = (65 + agreeing(i, k)) * ROWS + (LIMIT - k) * UNITS[p];
                    some = true;
                }
            }
            return some;
        }

        /** The best sum of a set in which the THING that is offered is one FIND's, or NONE. */
        private long bestWithLast(int set) {
            long most = NONE;
            for (int p = 0; p < chosen; p++) {
                if ((set >> p & 1) == 1 && gain[p] > 0 && best[set ^ 1 << p] >= 0) {
                    most = Math.max(most, best[set ^ 1 << p] + gain[p]);
                }
            }
            return most;
        }

        private int readRow(long code) {
            int found = 0;
            rowSize = chosen;
            for (int p = 0; p < chosen; p++) {
                row[p] = LIMIT - (int) (code / UNITS[p] % (LIMIT + 1));
                if (row[p] < LIMIT) {
                    found++;
                }
            }
            return found;
        }

        /** Of the FINDS that were chosen those that are LOST stay. */
        void keepLost() {
            int kept = 0;
            for (int p = 0; p < chosen; p++) {
                if (isLost(p)) {
                    choice[kept] = choice[p];
                    wanted[kept] = wanted[p];
                    kept++;
                }
            }
            chosen = kept;
        }

        private boolean isLost(int p) {
            for (int k = 0; k < things; k++) {
                if (!missing[k] && fits(choice[p], k, wanted[p])) {
                    return false;
                }
            }
            return true;
        }

        int nextToLook() {
            Arrays.fill(helped, 0);
            for (int p = 0; p < chosen; p++) {
                int helpers = museumsWithLike(p);
                for (int m = 0; m < MUSEUMS; m++) {
                    helped[m] += helpers >> m & 1;
                }
            }
            int next = NONE;
            for (int m = 0; m < MUSEUMS; m++) {
                if (helped[m] > (next == NONE ? 0 : helped[next])) {
                    next = m;
                }
            }
            return next;
        }

        private int museumsWithLike(int p) {
            int bits = 0;
            for (int k = 0; k < things; k++) {
                if (fits(choice[p], k, wanted[p])) {
                    bits |= 1 << museum[k];
                }
            }
            return bits;
        }
    }

    /** WALLS, how they were drawn, and WORKS on them. */
    private static final class Walls {
        static final int LIMIT = 30;
        static final int MOST_DRAWINGS = 100;
        static final int MOST_WORKS = 9;

        int size;
        private final int[] worth = new int[LIMIT];
        int drawings;
        private final int[] wallOf = new int[MOST_DRAWINGS];
        private final int[] drawn = new int[MOST_DRAWINGS];
        private final int[] features = new int[MOST_DRAWINGS];
        private final int[] told = new int[MOST_DRAWINGS];
        private int looks;
        private final int[] lookOrder = new int[MOST_DRAWINGS];
        int lastSeen;
        int nextLacking;
        int quarrelLacks;
        int quarrelHas;
        int works;
        private final int[] workWall = new int[MOST_WORKS];
        private final int[] cost = new int[MOST_WORKS];
        private final int[] saving = new int[MOST_WORKS];
        private final int[] savedOf = new int[LIMIT];

        int add(int ofWorth) {
            worth[size] = ofWorth;
            size++;
            return size - 1;
        }

        int look(int w, int week, int seen, int today) {
            wallOf[drawings] = w;
            drawn[drawings] = week;
            features[drawings] = seen;
            told[drawings] = today;
            int at = looks;
            while (at > 0 && drawn[lookOrder[at - 1]] > week) {
                lookOrder[at] = lookOrder[at - 1];
                at--;
            }
            lookOrder[at] = drawings;
            looks++;
            return trace();
        }

        /** A copy has a number and is no look: nothing else of it is ever asked. */
        int trace() {
            drawings++;
            return drawings - 1;
        }

        /** Goes through what is KNOWN on t of a FEATURE: sets lastSeen, nextLacking and the QUARREL. */
        void review(int w, int f, int t) {
            int firstLacking = NONE;
            lastSeen = NONE;
            nextLacking = NONE;
            quarrelLacks = NONE;
            quarrelHas = NONE;
            for (int n = 0; n < looks; n++) {
                int i = lookOrder[n];
                if (wallOf[i] != w || told[i] > t) {
                    continue;
                }
                if ((features[i] >> f & 1) == 1) {
                    if (firstLacking != NONE && quarrelHas == NONE) {
                        quarrelLacks = firstLacking;
                        quarrelHas = i;
                    }
                    lastSeen = i;
                    nextLacking = NONE;
                } else if (lastSeen != NONE) {
                    firstLacking = firstLacking == NONE ? i : firstLacking;
                    nextLacking = nextLacking == NONE ? i : nextLacking;
                }
            }
        }

        int weekOf(int drawing) {
            return drawing == NONE ? NONE : drawn[drawing];
        }

        int undertake(int w, int ofCost, int hundredths) {
            workWall[works] = w;
            cost[works] = ofCost;
            saving[works] = worth[w] * hundredths / 100;
            works++;
            return works - 1;
        }

        int savedBy(int set) {
            int sum = 0;
            Arrays.fill(savedOf, 0);
            for (int i = 0; i < works; i++) {
                if ((set >> i & 1) == 1) {
                    int w = workWall[i];
                    int more = Math.min(saving[i], worth[w] - savedOf[w]);
                    savedOf[w] += more;
                    sum += more;
                }
            }
            return sum;
        }

        private int costOf(int set) {
            int sum = 0;
            for (int i = 0; i < works; i++) {
                sum += (set >> i & 1) * cost[i];
            }
            return sum;
        }

        int bestSet(int money) {
            int best = 0;
            int bestSaved = 0;
            int bestCost = 0;
            for (int set = 1; set < 1 << works; set++) {
                int costs = costOf(set);
                if (costs > money) {
                    continue;
                }
                int saved = savedBy(set);
                if (saved > bestSaved || saved == bestSaved && costs < bestCost) {
                    best = set;
                    bestSaved = saved;
                    bestCost = costs;
                }
            }
            return best;
        }
    }

    /** ASH by HOURS, HEIGHTS, HOLLOWS and the WAYS out of them. */
    private static final class AshFall {
        static final int MOST_CUTS = 40;
        static final int MOST_HOLLOWS = 40;

        private final Plan plan;
        final int[] from = new int[LAYERS];
        final int[] to = new int[LAYERS];
        final int[] earliest = new int[LAYERS];
        final int[] latest = new int[LAYERS];
        int cuts;
        private final int[] upper = new int[MOST_CUTS];
        private final int[] lower = new int[MOST_CUTS];
        final int[] height = new int[MOST_CELLS];
        int hollows;
        private final int[] hollowCell = new int[MOST_HOLLOWS];
        private final int[] hollowLayer = new int[MOST_HOLLOWS];
        private int queued;
        private final int[] queue = new int[MOST_CELLS];
        private final int[] steps = new int[MOST_CELLS];

        AshFall(Plan plan) {
            this.plan = plan;
            Arrays.fill(to, LAST_HOUR);
            Arrays.fill(height, LAYERS);
        }

        void level() {
            Arrays.fill(height, LAYERS);
        }

        void cut(int a, int b) {
            upper[cuts] = a;
            lower[cuts] = b;
            cuts++;
        }

        int add(int cell, int layer) {
            hollowCell[hollows] = cell;
            hollowLayer[hollows] = layer;
            hollows++;
            return hollows - 1;
        }

        /** Sets the earliest and latest HOURS; false: they can't be. What still moves behind 8 rounds goes in a ring. */
        boolean reckon() {
            System.arraycopy(from, 0, earliest, 0, LAYERS);
            System.arraycopy(to, 0, latest, 0, LAYERS);
            boolean moving = true;
            for (int round = 0; round < LAYERS && moving; round++) {
                moving = push();
            }
            for (int l = 0; l < LAYERS; l++) {
                moving |= earliest[l] > latest[l];
            }
            return !moving;
        }

        private boolean push() {
            boolean moved = false;
            for (int c = 0; c < cuts; c++) {
                int up = upper[c];
                int low = lower[c];
                if (earliest[up] < earliest[low] + 1) {
                    earliest[up] = earliest[low] + 1;
                    moved = true;
                }
                if (latest[low] > latest[up] - 1) {
                    latest[low] = latest[up] - 1;
                    moved = true;
                }
            }
            return moved;
        }

        private int laidBy(int hour) {
            int laid = 0;
            for (int l = 0; l < LAYERS; l++) {
                if (latest[l] <= hour) {
                    laid++;
                }
            }
            return laid;
        }

        /** The fewest steps to the border, by HOURS that reckon() has set; cells are reached in order of steps. */
        int stepsOut(int i) {
            int laid = laidBy(earliest[hollowLayer[i]]);
            Arrays.fill(steps, NONE);
            steps[hollowCell[i]] = 0;
            queue[0] = hollowCell[i];
            queued = 1;
            for (int n = 0; n < queued && n < MOST_CELLS; n++) {
                if (isBorder(queue[n])) {
                    return steps[queue[n]];
                }
                spread(queue[n], laid);
            }
            return WRONG;
        }

        private boolean isBorder(int cell) {
            int column = plan.column(cell);
            int row = plan.row(cell);
            return column == 0 || row == 0 || column == plan.width - 1 || row == plan.height - 1;
        }

        /** Only for a CELL within: all eight beside it are there. */
        private void spread(int cell, int laid) {
            for (int down = -1; down <= 1; down++) {
                for (int right = -1; right <= 1; right++) {
                    int beside = cell + down * plan.width + right;
                    if (queued < MOST_CELLS && plan.isCell(beside) && steps[beside] == NONE && laid < height[beside]) {
                        steps[beside] = steps[cell] + 1;
                        queue[queued] = beside;
                        queued++;
                    }
                }
            }
        }
    }

    /** SIGNS of who lived where. */
    private static final class Signs {
        static final int LIMIT = 100;
        static final int NAMES = 30;

        private final Plan plan;
        private final RuleBook book;
        int size;
        private final int[] name = new int[LIMIT];
        private final int[] kind = new int[LIMIT];
        private final int[] place = new int[LIMIT];
        private final int[] week = new int[LIMIT];
        final int[] worth = new int[NAMES];
        private final int[] seen = new int[NAMES];

        Signs(Plan plan, RuleBook book) {
            this.plan = plan;
            this.book = book;
        }

        void add(int ofName, int ofKind, int inPlace, int inWeek) {
            name[size] = ofName;
            kind[size] = ofKind;
            place[size] = inPlace;
            week[size] = inWeek;
            size++;
        }

        /** Sets by NAMES how many SIGNS are in a PLACE, and their worth together. */
        void weigh(int inPlace) {
            Arrays.fill(worth, 0);
            Arrays.fill(seen, 0);
            for (int i = 0; i < size; i++) {
                if (place[i] == inPlace) {
                    book.ask(week[i], 0, kind[i], 0, plan.kind[inPlace]);
                    worth[name[i]] += book.signWorth();
                    seen[name[i]]++;
                }
            }
        }

        int strongest() {
            int best = NONE;
            for (int n = 0; n < NAMES; n++) {
                if (seen[n] >= 2 && worth[n] > (best == NONE ? 0 : worth[best])) {
                    best = n;
                }
            }
            return best;
        }

        int rivals(int most) {
            int found = 0;
            for (int n = 0; n < NAMES; n++) {
                if (seen[n] >= 2 && 2 * worth[n] >= most) {
                    found++;
                }
            }
            return found;
        }
    }
}
