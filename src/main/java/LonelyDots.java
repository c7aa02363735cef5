import java.util.Arrays;

/** Boards and rulers whose dots never line alike; ../shared/DOC.md says what each call answers. */
public final class LonelyDots {
    public static final int NONE = -1000000, BAD = -1000001, FULL = -1000003;

    private static final int FINDINGS = -1000010;
    private static final int NO_FINDING = 0;
    private static final int NULL_FINDING = 1;
    private static final int PLACE_FINDING = 2;
    private static final int KIND_FINDING = 3;
    private static final int SIZE_FINDING = 4;
    private static final int STORE_FINDING = 5;

    private static final int SHEETS = 8;
    private static final int MOST_ITEMS = 60;
    private static final int LANES = 3;
    private static final int PLACES = 10;

    private static final int KINDS = 6;
    private static final int THING = 0;
    private static final int ORDER = 1;
    private static final int LONELY = 2;
    private static final int MARKS = 3;
    private static final int RULER = 4;
    private static final int PERFECT = 5;

    private static final int MOST_ROWS = 16;
    private static final int MOST_MARKS = 12;
    private static final int GREATEST_MARK = 200;
    private static final int GREATEST_PRIME = 17;
    private static final int GREATEST_SHIFT = 15;
    private static final int CORNERS = 4;
    private static final int TURNS = 8;
    private static final int GREATEST_MOVE = 20;
    private static final int MOST_PAIRS = 30;
    private static final int MOST_LISTED_ROWS = 7;
    private static final int MOST_SHORTEST_MARKS = 6;

    private final Sheet[] sheets = new Sheet[SHEETS];
    private final Thing[] shelf = new Thing[PLACES];
    private final Trace bodies = new Trace();
    private final Moves moves = new Moves();
    private final LonelyList[] lonelyLists = new LonelyList[MOST_LISTED_ROWS + 1];
    private final RulerSearch rulerSearch = new RulerSearch();
    private int latestFinding = NO_FINDING;

    public LonelyDots() {
        for (int k = 0; k < SHEETS; k++) {
            sheets[k] = new Sheet();
        }
    }

    // ---- sheets

    public int sheet(int sheet, int lane, int n) {
        if (!isSheet(sheet) || lane < 0 || lane >= LANES || n > MOST_ITEMS) {
            return BAD;
        }
        if (n < 0) {
            return found(SIZE_FINDING);
        }
        sheets[sheet].lay(lane, n);
        return settled(n);
    }

    public int set(int sheet, int i, int v) {
        if (!isSheet(sheet)) {
            return BAD;
        }
        Sheet target = sheets[sheet];
        if (target.missing) {
            return found(NULL_FINDING);
        }
        if (!target.holds(i, 1)) {
            return found(PLACE_FINDING);
        }
        target.items[i] = target.narrowed(v);
        return settled(target.items[i]);
    }

    public int copy(int a, int i, int b, int j, int n) {
        if (!isSheet(a) || !isSheet(b)) {
            return BAD;
        }
        Sheet from = sheets[a];
        Sheet to = sheets[b];
        if (from.missing || to.missing) {
            return found(NULL_FINDING);
        }
        if (from.lane != to.lane) {
            return found(STORE_FINDING);
        }
        if (!from.holds(i, n) || !to.holds(j, n)) {
            return found(PLACE_FINDING);
        }
        System.arraycopy(from.items, i, to.items, j, n);
        return settled(n);
    }

    public int drop(int sheet) {
        if (!isSheet(sheet)) {
            return BAD;
        }
        Sheet dropped = sheets[sheet];
        if (dropped.missing) {
            return found(NULL_FINDING);
        }
        dropped.missing = true;
        return settled(dropped.length);
    }

    // ---- things

    public int order(int place, int sheet, int i, int n) {
        if (!isPlace(place) || !isSheet(sheet) || n < 1 || n > MOST_ROWS) {
            return BAD;
        }
        int finding = findingOfItems(sheet, i, n);
        if (finding != NO_FINDING) {
            return found(finding);
        }
        int[] columns = sheets[sheet].read(i, n);
        return Order.hasEachColumnOnce(columns) ? shelve(place, Order.told(columns)) : BAD;
    }

    public int marks(int place, int sheet, int i, int n) {
        if (!isPlace(place) || !isSheet(sheet) || n < 1 || n > MOST_MARKS) {
            return BAD;
        }
        int finding = findingOfItems(sheet, i, n);
        if (finding != NO_FINDING) {
            return found(finding);
        }
        int[] marks = sheets[sheet].read(i, n);
        return Marks.rise(marks) ? shelve(place, Marks.told(marks)) : BAD;
    }

    public int powers(int place, int p, int g, int e) {
        if (!isPlace(place) || p < 3 || !isPrime(p) || !isRoot(g, p)
                || e < 0 || e > GREATEST_SHIFT) {
            return BAD;
        }
        return shelve(place, Order.told(columnsByPowers(p, g, e)));
    }

    public int sums(int place, int p, int g, int h) {
        if (!isPlace(place) || p < 5 || !isPrime(p) || !isRoot(g, p)
                || !isRoot(h, p)) {
            return BAD;
        }
        return shelve(place, Order.told(columnsBySums(p, g, h)));
    }

    public int take(int to, int place, int corner) {
        if (!isPlace(to) || !isPlace(place) || corner < 0 || corner >= CORNERS) {
            return BAD;
        }
        Order order = orderAt(place);
        if (order == null) {
            return found(findingOfNoOrder(place));
        }
        if (order.numbers.length <= 1 || !order.hasDotInCorner(corner)) {
            return settled(NONE);
        }
        return shelve(to, Order.told(order.columnsWithoutCorner(corner)));
    }

    public int put(int to, int place, int corner) {
        if (!isPlace(to) || !isPlace(place) || corner < 0 || corner >= CORNERS) {
            return BAD;
        }
        Order order = orderAt(place);
        if (order == null) {
            return found(findingOfNoOrder(place));
        }
        if (order.numbers.length >= MOST_ROWS) {
            return FULL;
        }
        return shelve(to, Order.told(order.columnsWithCorner(corner)));
    }

    public int turn(int to, int place, int turn) {
        if (!isPlace(to) || !isPlace(place) || turn < 0 || turn >= TURNS) {
            return BAD;
        }
        Order order = orderAt(place);
        if (order == null) {
            return found(findingOfNoOrder(place));
        }
        int[] columns = new int[order.numbers.length];
        Order.turnInto(columns, order.numbers, turn);
        return shelve(to, Order.told(columns));
    }

    public int nth(int place, int n, int i) {
        if (!isPlace(place) || n < 1 || n > MOST_LISTED_ROWS) {
            return BAD;
        }
        LonelyList list = lonelyList(n);
        if (i < 0 || i >= list.size) {
            return settled(NONE);
        }
        return shelve(place, new Lonely(list.columnsOf(i)));
    }

    public int clear(int place) {
        if (!isPlace(place)) {
            return BAD;
        }
        int cleared = shelf[place] == null ? 0 : 1;
        shelf[place] = null;
        return cleared;
    }

    // ---- asked

    public int kind(int place) {
        if (!isPlace(place)) {
            return BAD;
        }
        Thing thing = shelf[place];
        return thing == null ? found(NULL_FINDING) : settled(thing.toldKind());
    }

    public int is(int place, int kind) {
        if (!isPlace(place) || kind < 0 || kind >= KINDS) {
            return BAD;
        }
        return isOfKind(shelf[place], kind) ? 1 : 0;
    }

    public int as(int place, int kind) {
        if (!isPlace(place) || kind < 0 || kind >= KINDS) {
            return BAD;
        }
        Thing thing = shelf[place];
        if (thing == null) {
            return found(NULL_FINDING);
        }
        return isOfKind(thing, kind) ? settled(thing.numbers.length) : found(KIND_FINDING);
    }

    public int ask(int place, int what) {
        if (!isPlace(place) || what < 0 || what > 1) {
            return BAD;
        }
        bodies.empty();
        Thing thing = shelf[place];
        if (thing == null) {
            return found(NULL_FINDING);
        }
        return settled(what == 0 ? thing.askSize(bodies) : thing.askMark(bodies));
    }

    public int trace(int i) {
        return bodies.number(i);
    }

    public int at(int place, int k) {
        if (!isPlace(place)) {
            return BAD;
        }
        Thing thing = shelf[place];
        if (thing == null) {
            return found(NULL_FINDING);
        }
        return k < 0 || k >= thing.numbers.length ? BAD : settled(thing.numbers[k]);
    }

    public int alike(int place, int what) {
        if (!isPlace(place) || what < 0 || what > 3) {
            return BAD;
        }
        Thing thing = shelf[place];
        return thing == null ? found(NULL_FINDING) : settled(thing.partOfAlike(what));
    }

    // ---- meetings

    public int meeting(int a, int b, int r, int s) {
        if (!isPlace(a) || !isPlace(b) || Math.max(r, s) > GREATEST_MOVE
                || Math.min(r, s) < -GREATEST_MOVE) {
            return BAD;
        }
        Order first = orderAt(a);
        if (first == null) {
            return found(findingOfNoOrder(a));
        }
        Order second = orderAt(b);
        if (second == null) {
            return found(findingOfNoOrder(b));
        }
        return settled(Moves.meetingDots(first.numbers, second.numbers, r, s));
    }

    public int most(int place) {
        if (!isPlace(place)) {
            return BAD;
        }
        Order order = orderAt(place);
        if (order == null) {
            return found(findingOfNoOrder(place));
        }
        return settled(moves.mostWithItself(order.numbers));
    }

    public int together(int a, int b) {
        if (!isPlace(a) || !isPlace(b)) {
            return BAD;
        }
        Order first = orderAt(a);
        if (first == null) {
            return found(findingOfNoOrder(a));
        }
        Order second = orderAt(b);
        if (second == null) {
            return found(findingOfNoOrder(b));
        }
        return settled(moves.mostOfTwo(first.numbers, second.numbers));
    }

    public int echo(int place, int sheet, int i, int n, int what) {
        if (!isPlace(place) || !isSheet(sheet) || n < 1 || n > MOST_PAIRS
                || what < 0 || what > 2) {
            return BAD;
        }
        Order order = orderAt(place);
        if (order == null) {
            return found(findingOfNoOrder(place));
        }
        int finding = findingOfItems(sheet, i, 2 * n);
        if (finding != NO_FINDING) {
            return found(finding);
        }
        return settled(moves.partOfEcho(what, order.numbers, sheets[sheet].items, i, n));
    }

    // ---- counted

    public int lonely(int n, int what) {
        if (n < 1 || n > MOST_LISTED_ROWS || what < 0 || what > 1) {
            return BAD;
        }
        LonelyList list = lonelyList(n);
        return what == 0 ? list.size : list.sizeUpToTurns;
    }

    public int shortest(int n) {
        if (n < 1 || n > MOST_SHORTEST_MARKS) {
            return BAD;
        }
        return rulerSearch.leastGreatestMark(n);
    }

    public int count(int what) {
        if (what < 0 || what > 5) {
            return BAD;
        }
        // From 1 on the numbers asked for are those of the KINDS, and one more.
        return what == 0 ? sheetsThere() : thingsOfKind(what - 1);
    }

    public int status() {
        return latestFinding;
    }

    // ---- helpers of the calls

    private static boolean isSheet(int sheet) {
        return sheet >= 0 && sheet < SHEETS;
    }

    private static boolean isPlace(int place) {
        return place >= 0 && place < PLACES;
    }

    private int found(int finding) {
        latestFinding = finding;
        return FINDINGS - finding;
    }

    private int settled(int answer) {
        latestFinding = NO_FINDING;
        return answer;
    }

    private int shelve(int place, Thing thing) {
        shelf[place] = thing;
        return settled(thing.toldKind());
    }

    private int findingOfItems(int sheet, int i, int n) {
        if (sheets[sheet].missing) {
            return NULL_FINDING;
        }
        return sheets[sheet].holds(i, n) ? NO_FINDING : PLACE_FINDING;
    }

    private Order orderAt(int place) {
        Thing thing = shelf[place];
        return thing instanceof Order ? (Order) thing : null;
    }

    private int findingOfNoOrder(int place) {
        return shelf[place] == null ? NULL_FINDING : KIND_FINDING;
    }

    private static boolean isOfKind(Thing thing, int kind) {
        switch (kind) {
            case THING:
                return thing != null;
            case ORDER:
                return thing instanceof Order;
            case LONELY:
                return thing instanceof Lonely;
            case MARKS:
                return thing instanceof Marks;
            case RULER:
                return thing instanceof Ruler;
            case PERFECT:
                return thing instanceof Perfect;
            default:
                return false;
        }
    }

    private int sheetsThere() {
        int there = 0;
        for (int k = 0; k < SHEETS; k++) {
            if (!sheets[k].missing) {
                there++;
            }
        }
        return there;
    }

    private int thingsOfKind(int kind) {
        int things = 0;
        for (int k = 0; k < PLACES; k++) {
            if (isOfKind(shelf[k], kind)) {
                things++;
            }
        }
        return things;
    }

    // The search is dear and its result never changes, so it is made once for each n.
    private LonelyList lonelyList(int n) {
        if (lonelyLists[n] == null) {
            lonelyLists[n] = LonelyList.searched(n);
        }
        return lonelyLists[n];
    }

    // ---- helpers of powers and sums

    private static boolean isPrime(int p) {
        if (p < 2 || p > GREATEST_PRIME) {
            return false;
        }
        for (int d = 2; d < p; d++) {
            if (p % d == 0) {
                return false;
            }
        }
        return true;
    }

    // The powers begin again behind the first 1, so it must not come ahead of power p - 1.
    private static boolean isRoot(int g, int p) {
        return g >= 1 && g < p && exponent(g, 1, p) == p - 1;
    }

    /** The least i from 1 on for which base to the power i is value; p - 1 if no lesser one is. */
    private static int exponent(int base, int value, int p) {
        int power = base;
        int i = 1;
        while (i < p - 1 && power != value) {
            power = power * base % p;
            i++;
        }
        return i;
    }

    private static int[] columnsByPowers(int p, int g, int e) {
        int[] columns = new int[p - 1];
        int power = 1;
        for (int k = 0; k <= e; k++) {
            power = power * g % p;
        }
        for (int k = 0; k < columns.length; k++) {
            columns[k] = power - 1;
            power = power * g % p;
        }
        return columns;
    }

    private static int[] columnsBySums(int p, int g, int h) {
        int[] columns = new int[p - 2];
        int power = g;
        for (int k = 0; k < columns.length; k++) {
            columns[k] = exponent(h, p + 1 - power, p) - 1;
            power = power * g % p;
        }
        return columns;
    }

    /** One SHEET; its row is made once and used again by every SHEET that takes its place. */
    private static final class Sheet {
        final int[] items = new int[MOST_ITEMS];
        boolean missing = true;
        int lane;
        int length;

        void lay(int newLane, int newLength) {
            missing = false;
            lane = newLane;
            length = newLength;
            Arrays.fill(items, 0);
        }

        // i is compared with length - n, since i + n could wrap around.
        boolean holds(int i, int n) {
            return i >= 0 && n >= 0 && n <= length && i <= length - n;
        }

        int narrowed(int v) {
            switch (lane) {
                case 0:
                    return (byte) v;
                case 1:
                    return (short) v;
                default:
                    return v;
            }
        }

        int[] read(int i, int n) {
            return Arrays.copyOfRange(items, i, i + n);
        }
    }

    /** THE TRACE: the numbers of the BODIES that have begun. */
    private static final class Trace {
        private final int[] numbers = new int[16];
        private int size;

        void empty() {
            size = 0;
        }

        void begin(int body) {
            if (size < numbers.length) {
                numbers[size] = body;
                size++;
            }
        }

        int number(int i) {
            return i >= 0 && i < size ? numbers[i] : NONE;
        }
    }

    /** A THING: the columns of an ORDER, or the marks of MARKS; its numbers are never written to. */
    private abstract static class Thing {
        final int[] numbers;

        Thing(int[] numbers) {
            this.numbers = numbers;
        }

        abstract int toldKind();

        /** Which d makes the pair c, d alike to the pair a, b; -1: none. */
        abstract int secondAlike(int a, int b, int c);

        int askSize(Trace trace) {
            trace.begin(10);
            return 1;
        }

        int askMark(Trace trace) {
            trace.begin(20);
            return askSize(trace) + 4;
        }

        int partOfAlike(int what) {
            for (int a = 0; a < numbers.length; a++) {
                for (int b = a + 1; b < numbers.length; b++) {
                    int c = laterFirst(a, b);
                    if (c >= 0) {
                        return partOfPairs(what, a, b, c);
                    }
                }
            }
            return NONE;
        }

        // Two pairs with the same first one are never alike, so later pairs begin behind a.
        private int laterFirst(int a, int b) {
            for (int c = a + 1; c < numbers.length; c++) {
                if (secondAlike(a, b, c) >= 0) {
                    return c;
                }
            }
            return -1;
        }

        private int partOfPairs(int what, int a, int b, int c) {
            switch (what) {
                case 0:
                    return a;
                case 1:
                    return b;
                case 2:
                    return c;
                default:
                    return secondAlike(a, b, c);
            }
        }
    }

    private static class Order extends Thing {
        Order(int[] columns) {
            super(columns);
        }

        static Order told(int[] columns) {
            Order order = new Order(columns);
            return order.partOfAlike(0) == NONE ? new Lonely(columns) : order;
        }

        static boolean hasEachColumnOnce(int[] columns) {
            int seen = 0;
            for (int column : columns) {
                if (column < 0 || column >= columns.length || (seen >> column & 1) != 0) {
                    return false;
                }
                seen |= 1 << column;
            }
            return true;
        }

        static void turnInto(int[] to, int[] from, int turn) {
            int last = from.length - 1;
            for (int k = 0; k < from.length; k++) {
                int row = (turn & 1) != 0 ? last - k : k;
                int column = (turn & 2) != 0 ? last - from[k] : from[k];
                if ((turn & 4) != 0) {
                    to[column] = row;
                } else {
                    to[row] = column;
                }
            }
        }

        int toldKind() {
            return ORDER;
        }

        int secondAlike(int a, int b, int c) {
            int d = c + b - a;
            if (d >= numbers.length) {
                return -1;
            }
            return numbers[d] - numbers[c] == numbers[b] - numbers[a] ? d : -1;
        }

        int askSize(Trace trace) {
            trace.begin(11);
            return numbers.length;
        }

        boolean hasDotInCorner(int corner) {
            int last = numbers.length - 1;
            int row = isBelow(corner) ? last : 0;
            int column = isRight(corner) ? last : 0;
            return numbers[row] == column;
        }

        int[] columnsWithoutCorner(int corner) {
            int[] columns = new int[numbers.length - 1];
            int up = isBelow(corner) ? 0 : 1;
            int left = isRight(corner) ? 0 : 1;
            for (int k = 0; k < columns.length; k++) {
                columns[k] = numbers[k + up] - left;
            }
            return columns;
        }

        int[] columnsWithCorner(int corner) {
            int n = numbers.length;
            int[] columns = new int[n + 1];
            int down = isBelow(corner) ? 0 : 1;
            int right = isRight(corner) ? 0 : 1;
            for (int k = 0; k < n; k++) {
                columns[k + down] = numbers[k] + right;
            }
            columns[isBelow(corner) ? n : 0] = isRight(corner) ? n : 0;
            return columns;
        }

        private static boolean isBelow(int corner) {
            return (corner & 2) != 0;
        }

        private static boolean isRight(int corner) {
            return (corner & 1) != 0;
        }
    }

    private static final class Lonely extends Order {
        Lonely(int[] columns) {
            super(columns);
        }

        int toldKind() {
            return LONELY;
        }

        int askMark(Trace trace) {
            trace.begin(21);
            return 2 * super.askMark(trace);
        }
    }

    private static class Marks extends Thing {
        Marks(int[] marks) {
            super(marks);
        }

        static Marks told(int[] marks) {
            Marks plain = new Marks(marks);
            if (plain.partOfAlike(0) != NONE) {
                return plain;
            }
            return plain.hasAllDistances() ? new Perfect(marks) : new Ruler(marks);
        }

        static boolean rise(int[] marks) {
            int earlier = -1;
            for (int mark : marks) {
                if (mark <= earlier || mark > GREATEST_MARK) {
                    return false;
                }
                earlier = mark;
            }
            return true;
        }

        // Of unlike distances it is enough to know that there are as many as the greatest one.
        private boolean hasAllDistances() {
            int n = numbers.length;
            return n * (n - 1) / 2 == numbers[n - 1] - numbers[0];
        }

        int toldKind() {
            return MARKS;
        }

        int secondAlike(int a, int b, int c) {
            int mark = numbers[c] + numbers[b] - numbers[a];
            for (int d = c + 1; d < numbers.length; d++) {
                if (numbers[d] == mark) {
                    return d;
                }
            }
            return -1;
        }

        int askSize(Trace trace) {
            trace.begin(12);
            return super.askSize(trace) + numbers[numbers.length - 1];
        }

        int askMark(Trace trace) {
            trace.begin(22);
            return numbers.length;
        }
    }

    private static class Ruler extends Marks {
        Ruler(int[] marks) {
            super(marks);
        }

        int toldKind() {
            return RULER;
        }

        int askSize(Trace trace) {
            trace.begin(13);
            return 2 * super.askSize(trace);
        }
    }

    private static final class Perfect extends Ruler {
        Perfect(int[] marks) {
            super(marks);
        }

        int toldKind() {
            return PERFECT;
        }

        int askSize(Trace trace) {
            trace.begin(14);
            return super.askSize(trace) + askMark(trace);
        }
    }

    /** Boards moved over one another; the rows for tallies are made once. */
    private static final class Moves {
        private static final int SIDE = GREATEST_MOVE + 1;
        private final int[] meetings = new int[2 * MOST_ROWS - 1];
        private final int[] fits = new int[SIDE * SIDE];

        static int meetingDots(int[] a, int[] b, int r, int s) {
            int dots = 0;
            for (int k = 0; k < b.length; k++) {
                int row = k + r;
                if (row >= 0 && row < a.length && a[row] == b[k] + s) {
                    dots++;
                }
            }
            return dots;
        }

        int mostOfTwo(int[] a, int[] b) {
            int greatest = 0;
            for (int r = 1 - b.length; r < a.length; r++) {
                greatest = Math.max(greatest, mostMovedByRows(a, b, r));
            }
            return greatest;
        }

        // By columns alone no DOT meets another, and by rows up as many meet as by rows down.
        int mostWithItself(int[] a) {
            int greatest = 0;
            for (int r = 1; r < a.length; r++) {
                greatest = Math.max(greatest, mostMovedByRows(a, a, r));
            }
            return greatest;
        }

        // When rows have been moved, each DOT meets another by one move of columns only: these are tallied.
        private int mostMovedByRows(int[] a, int[] b, int r) {
            Arrays.fill(meetings, 0);
            int greatest = 0;
            for (int k = 0; k < b.length; k++) {
                int row = k + r;
                if (row >= 0 && row < a.length) {
                    int s = a[row] - b[k] + MOST_ROWS - 1;
                    meetings[s]++;
                    greatest = Math.max(greatest, meetings[s]);
                }
            }
            return greatest;
        }

        int partOfEcho(int what, int[] columns, int[] items, int i, int n) {
            Arrays.fill(fits, 0);
            for (int pair = 0; pair < n; pair++) {
                tallyFits(columns, items[i + 2 * pair], items[i + 2 * pair + 1]);
            }
            int best = firstBest();
            switch (what) {
                case 0:
                    return best / SIDE;
                case 1:
                    return best % SIDE;
                default:
                    return fits[best];
            }
        }

        // A difference that wraps around comes out far above every move.
        private void tallyFits(int[] columns, int row, int column) {
            for (int k = 0; k < columns.length; k++) {
                int r = row - k;
                int s = column - columns[k];
                if (r >= 0 && r < SIDE && s >= 0 && s < SIDE) {
                    fits[r * SIDE + s]++;
                }
            }
        }

        private int firstBest() {
            int best = 0;
            for (int move = 1; move < fits.length; move++) {
                if (fits[move] > fits[best]) {
                    best = move;
                }
            }
            return best;
        }
    }

    /** All LONELY ORDERS of one n, in their ORDER. */
    private static final class LonelyList {
        private static final int CAPACITY = 200;
        private static final int BITS = 3;
        private final int[] columns;
        private final int[] turned;
        // An ORDER is kept as one number, c(0) highest, so that numbers compare as ORDERS do.
        private final int[] codes = new int[CAPACITY];
        int size;
        int sizeUpToTurns;

        private LonelyList(int n) {
            columns = new int[n];
            turned = new int[n];
        }

        static LonelyList searched(int n) {
            LonelyList list = new LonelyList(n);
            search(list, 0);
            return list;
        }

        int[] columnsOf(int i) {
            int[] result = new int[columns.length];
            int code = codes[i];
            for (int k = result.length - 1; k >= 0; k--) {
                result[k] = code & (1 << BITS) - 1;
                code >>= BITS;
            }
            return result;
        }

        private static void search(LonelyList list, int row) {
            if (row >= list.columns.length) {
                list.keep();
                return;
            }
            for (int column = 0; column < list.columns.length; column++) {
                list.columns[row] = column;
                if (list.isLonelyUpTo(row)) {
                    search(list, row + 1);
                }
            }
        }

        // The rows above are LONELY already: only ways to this row can be new.
        private boolean isLonelyUpTo(int row) {
            for (int down = 1; down <= row; down++) {
                int on = columns[row] - columns[row - down];
                if (on == 0) {
                    return false;
                }
                for (int k = down; k < row; k++) {
                    if (columns[k] - columns[k - down] == on) {
                        return false;
                    }
                }
            }
            return true;
        }

        private void keep() {
            if (size >= CAPACITY) {
                return;
            }
            codes[size] = code(columns);
            size++;
            if (isFirstOfItsTurns()) {
                sizeUpToTurns++;
            }
        }

        // Of the ORDERS that are TURNS of one another just the first one is counted.
        private boolean isFirstOfItsTurns() {
            int own = code(columns);
            for (int turn = 1; turn < TURNS; turn++) {
                Order.turnInto(turned, columns, turn);
                if (code(turned) < own) {
                    return false;
                }
            }
            return true;
        }

        private static int code(int[] columns) {
            int code = 0;
            for (int column : columns) {
                code = code << BITS | column;
            }
            return code;
        }
    }

    /** The search for the shortest RULER; what it has found once it keeps. */
    private static final class RulerSearch {
        private static final int UNKNOWN = -1;
        private final int[] known = new int[MOST_SHORTEST_MARKS + 1];
        private final int[] marks = new int[MOST_SHORTEST_MARKS];
        private final boolean[] taken = new boolean[GREATEST_MARK + 1];
        private int least;

        RulerSearch() {
            Arrays.fill(known, UNKNOWN);
        }

        int leastGreatestMark(int n) {
            if (known[n] == UNKNOWN) {
                least = GREATEST_MARK + 1;
                search(this, 1, n);
                known[n] = least;
            }
            return known[n];
        }

        // Mark 0 stays 0, since no RULER that begins later is shorter.
        private static void search(RulerSearch ruler, int size, int n) {
            int last = ruler.marks[size - 1];
            if (size >= n) {
                ruler.least = last;
                return;
            }
            for (int mark = last + 1; mark < ruler.least; mark++) {
                if (ruler.hasNewDistances(mark, size)) {
                    ruler.marks[size] = mark;
                    ruler.mindDistances(mark, size, true);
                    search(ruler, size + 1, n);
                    ruler.mindDistances(mark, size, false);
                }
            }
        }

        private boolean hasNewDistances(int mark, int size) {
            for (int k = 0; k < size; k++) {
                if (taken[mark - marks[k]]) {
                    return false;
                }
            }
            return true;
        }

        private void mindDistances(int mark, int size, boolean kept) {
            for (int k = 0; k < size; k++) {
                taken[mark - marks[k]] = kept;
            }
        }
    }
}
