import java.util.ArrayList;
import java.util.Arrays;
import java.util.HashSet;
import java.util.List;
import java.util.Set;
import java.util.TreeSet;

/** The document once more, as plainly as it can be told and without a thought of speed: what ModelTest compares with. */
final class NaiveDots {
    private static final int NONE = -1000000, BAD = -1000001, FULL = -1000003;
    private static final List<List<List<Integer>>> LONELY_ORDERS = new ArrayList<>();
    private static final int[] UP_TO_TURNS = new int[8];

    static {
        LONELY_ORDERS.add(List.of());
        for (int n = 1; n <= 7; n++) {
            List<List<Integer>> lonely = new ArrayList<>();
            for (List<Integer> order : permutations(n)) {
                if (alikePairs(order, false) == null) {
                    lonely.add(order);
                }
            }
            LONELY_ORDERS.add(lonely);
            Set<Set<List<Integer>>> classes = new HashSet<>();
            for (List<Integer> order : lonely) {
                Set<List<Integer>> turns = new HashSet<>();
                for (int turn = 0; turn < 8; turn++) {
                    turns.add(turned(order, turn));
                }
                classes.add(turns);
            }
            UP_TO_TURNS[n] = classes.size();
        }
    }

    private record Sheet(int lane, int[] items) { }

    private record Thing(boolean isMarks, List<Integer> numbers) {
        int kind() {
            boolean lonely = alikePairs(numbers, isMarks) == null;
            if (!isMarks) {
                return lonely ? 2 : 1;
            }
            if (!lonely) {
                return 3;
            }
            TreeSet<Integer> distances = new TreeSet<>();
            for (int a : numbers) {
                for (int b : numbers) {
                    if (b > a) {
                        distances.add(b - a);
                    }
                }
            }
            return distances.isEmpty() || distances.last() == distances.size() ? 5 : 4;
        }

        boolean is(int kind) {
            int own = kind();
            return kind == own || kind == 0 || own == 2 && kind == 1 || own == 4 && kind == 3
                    || own == 5 && (kind == 4 || kind == 3);
        }
    }

    private final Sheet[] sheets = new Sheet[8];
    private final Thing[] shelf = new Thing[10];
    private final List<Integer> trace = new ArrayList<>();
    private int status;
    private int finding;
    /** The answer is an ITEM, which may look like a refusal. */
    private boolean isItem;

    int call(String name, int... v) {
        finding = 0;
        isItem = false;
        int answer = answer(name, v);
        boolean tellsNone = List.of("clear", "is", "trace", "lonely", "shortest", "count", "status").contains(name);
        if (!tellsNone && (isItem || answer != BAD && answer != FULL)) {
            status = finding;
        }
        return answer;
    }

    private int answer(String name, int[] v) {
        return switch (name) {
            case "sheet" -> sheet(v[0], v[1], v[2]);
            case "set" -> set(v[0], v[1], v[2]);
            case "copy" -> copy(v[0], v[1], v[2], v[3], v[4]);
            case "drop" -> drop(v[0]);
            case "order", "marks" -> made(name.equals("marks"), v[0], v[1], v[2], v[3]);
            case "powers" -> powers(v[0], v[1], v[2], v[3]);
            case "sums" -> sums(v[0], v[1], v[2], v[3]);
            case "take", "put", "turn" -> changed(name, v[0], v[1], v[2]);
            case "nth" -> nth(v[0], v[1], v[2]);
            case "clear", "kind" -> !inside(v[0], 10) ? BAD : name.equals("clear") ? clear(v[0])
                    : shelf[v[0]] == null ? found(1) : shelf[v[0]].kind();
            case "is", "as" -> cast(name, v[0], v[1]);
            case "ask" -> ask(v[0], v[1]);
            case "trace" -> inside(v[0], trace.size()) ? trace.get(v[0]) : NONE;
            case "at" -> at(v[0], v[1]);
            case "alike" -> alike(v[0], v[1]);
            case "meeting" -> meeting(v[0], v[1], v[2], v[3]);
            case "most" -> !inside(v[0], 10) ? BAD : together(v[0], v[0], true);
            case "together" -> !inside(v[0], 10) || !inside(v[1], 10) ? BAD : together(v[0], v[1], false);
            case "echo" -> echo(v);
            case "lonely" -> v[0] < 1 || v[0] > 7 || !inside(v[1], 2) ? BAD
                    : v[1] == 0 ? LONELY_ORDERS.get(v[0]).size() : UP_TO_TURNS[v[0]];
            case "shortest" -> v[0] < 1 || v[0] > 6 ? BAD : shortest(v[0]);
            case "count" -> count(v[0]);
            case "status" -> status;
            default -> throw new IllegalArgumentException(name);
        };
    }

    private static boolean inside(int i, int n) {
        return i >= 0 && i < n;
    }

    private int found(int number) {
        finding = number;
        return -1000010 - number;
    }

    private int sheet(int sheet, int lane, int n) {
        if (!inside(sheet, 8) || !inside(lane, 3) || n > 60) {
            return BAD;
        }
        if (n < 0) {
            return found(4);
        }
        sheets[sheet] = new Sheet(lane, new int[n]);
        return n;
    }

    private int set(int sheet, int i, int v) {
        if (!inside(sheet, 8)) {
            return BAD;
        }
        if (sheets[sheet] == null) {
            return found(1);
        }
        if (!inside(i, sheets[sheet].items.length)) {
            return found(2);
        }
        isItem = true;
        int unread = 32 - (8 << sheets[sheet].lane);
        return sheets[sheet].items[i] = v << unread >> unread;
    }

    private int copy(int a, int i, int b, int j, int n) {
        if (!inside(a, 8) || !inside(b, 8)) {
            return BAD;
        }
        if (sheets[a] == null || sheets[b] == null) {
            return found(1);
        }
        if (sheets[a].lane != sheets[b].lane) {
            return found(5);
        }
        if (i < 0 || j < 0 || n < 0 || (long) i + n > sheets[a].items.length || (long) j + n > sheets[b].items.length) {
            return found(2);
        }
        int[] ahead = sheets[a].items.clone();
        for (int k = 0; k < n; k++) {
            sheets[b].items[j + k] = ahead[i + k];
        }
        return n;
    }

    private int drop(int sheet) {
        if (!inside(sheet, 8)) {
            return BAD;
        }
        if (sheets[sheet] == null) {
            return found(1);
        }
        int n = sheets[sheet].items.length;
        sheets[sheet] = null;
        return n;
    }

    private int shelved(int place, boolean isMarks, List<Integer> numbers) {
        shelf[place] = new Thing(isMarks, List.copyOf(numbers));
        return shelf[place].kind();
    }

    private int made(boolean isMarks, int place, int sheet, int i, int n) {
        if (!inside(place, 10) || !inside(sheet, 8) || n < 1 || n > (isMarks ? 12 : 16)) {
            return BAD;
        }
        if (sheets[sheet] == null) {
            return found(1);
        }
        List<Integer> numbers = new ArrayList<>();
        for (long k = i; k < (long) i + n; k++) {
            if (k < 0 || k >= sheets[sheet].items.length) {
                return found(2);
            }
            numbers.add(sheets[sheet].items[(int) k]);
        }
        TreeSet<Integer> rising = new TreeSet<>(numbers);
        if (rising.size() != n || rising.first() < 0 || rising.last() > (isMarks ? 200 : n - 1)) {
            return BAD;
        }
        if (isMarks && !numbers.equals(new ArrayList<>(rising))) {
            return BAD;
        }
        return shelved(place, isMarks, numbers);
    }

    private static boolean isRoot(int p, int g) {
        if (!List.of(3, 5, 7, 11, 13, 17).contains(p) || g < 1 || g >= p) {
            return false;
        }
        Set<Integer> powers = new HashSet<>();
        for (int k = 1; k <= p; k++) {
            powers.add(power(g, k, p));
        }
        return powers.size() == p - 1;
    }

    private static int power(int g, int k, int p) {
        int power = 1;
        for (int i = 0; i < k; i++) {
            power = power * g % p;
        }
        return power;
    }

    private int powers(int place, int p, int g, int e) {
        if (!inside(place, 10) || !isRoot(p, g) || !inside(e, 16)) {
            return BAD;
        }
        List<Integer> columns = new ArrayList<>();
        for (int k = 0; k < p - 1; k++) {
            columns.add(power(g, k + e + 1, p) - 1);
        }
        return shelved(place, false, columns);
    }

    private int sums(int place, int p, int g, int h) {
        if (!inside(place, 10) || p < 5 || !isRoot(p, g) || !isRoot(p, h)) {
            return BAD;
        }
        List<Integer> columns = new ArrayList<>();
        for (int i = 1; i <= p - 2; i++) {
            for (int j = 1; j <= p - 2; j++) {
                if ((power(g, i, p) + power(h, j, p)) % p == 1) {
                    columns.add(j - 1);
                }
            }
        }
        return shelved(place, false, columns);
    }

    private int noOrder(int place) {
        return shelf[place] == null ? found(1) : shelf[place].isMarks ? found(3) : 0;
    }

    private int changed(String name, int to, int place, int how) {
        if (!inside(to, 10) || !inside(place, 10) || !inside(how, name.equals("turn") ? 8 : 4)) {
            return BAD;
        }
        if (noOrder(place) != 0) {
            return noOrder(place);
        }
        List<Integer> columns = new ArrayList<>(shelf[place].numbers);
        int n = columns.size();
        if (name.equals("turn")) {
            return shelved(to, false, turned(columns, how));
        }
        int row = how / 2 * (n - 1);
        int column = how % 2 * (n - 1);
        if (name.equals("take")) {
            if (n == 1 || columns.get(row) != column) {
                return NONE;
            }
            columns.remove(row);
            columns.replaceAll(c -> c > column ? c - 1 : c);
            return shelved(to, false, columns);
        }
        if (n == 16) {
            return FULL;
        }
        columns.replaceAll(c -> how % 2 == 0 ? c + 1 : c);
        columns.add(how / 2 * n, how % 2 * n);
        return shelved(to, false, columns);
    }

    private static List<Integer> turned(List<Integer> columns, int turn) {
        int n = columns.size();
        boolean[][] board = new boolean[n][n];
        for (int k = 0; k < n; k++) {
            board[k][columns.get(k)] = true;
        }
        for (int bit = 1; bit <= 4; bit *= 2) {
            boolean[][] next = new boolean[n][n];
            for (int r = 0; r < n; r++) {
                for (int c = 0; c < n; c++) {
                    int fromRow = bit == 1 ? n - 1 - r : bit == 2 ? r : c;
                    int fromColumn = bit == 1 ? c : bit == 2 ? n - 1 - c : r;
                    next[r][c] = board[fromRow][fromColumn];
                }
            }
            board = (turn & bit) != 0 ? next : board;
        }
        List<Integer> result = new ArrayList<>();
        for (boolean[] row : board) {
            for (int c = 0; c < n; c++) {
                if (row[c]) {
                    result.add(c);
                }
            }
        }
        return result;
    }

    private static List<List<Integer>> permutations(int n) {
        List<List<Integer>> all = List.of(List.of());
        for (int k = 0; k < n; k++) {
            List<List<Integer>> longer = new ArrayList<>();
            for (List<Integer> some : all) {
                for (int c = 0; c < n; c++) {
                    if (!some.contains(c)) {
                        List<Integer> more = new ArrayList<>(some);
                        more.add(c);
                        longer.add(more);
                    }
                }
            }
            all = longer;
        }
        return all;
    }

    private int nth(int place, int n, int i) {
        if (!inside(place, 10) || n < 1 || n > 7) {
            return BAD;
        }
        List<List<Integer>> lonely = LONELY_ORDERS.get(n);
        return inside(i, lonely.size()) ? shelved(place, false, lonely.get(i)) : NONE;
    }

    private int clear(int place) {
        boolean had = shelf[place] != null;
        shelf[place] = null;
        return had ? 1 : 0;
    }

    private int cast(String name, int place, int kind) {
        if (!inside(place, 10) || !inside(kind, 6)) {
            return BAD;
        }
        Thing thing = shelf[place];
        if (name.equals("is")) {
            return thing != null && thing.is(kind) ? 1 : 0;
        }
        return thing == null ? found(1) : thing.is(kind) ? thing.numbers.size() : found(3);
    }

    private int ask(int place, int what) {
        if (!inside(place, 10) || !inside(what, 2)) {
            return BAD;
        }
        trace.clear();
        Thing thing = shelf[place];
        if (thing == null) {
            return found(1);
        }
        int n = thing.numbers.size();
        int last = thing.numbers.get(n - 1);
        int kind = thing.kind();
        int[][] bodies = {
            {}, {}, {11}, {20, 11}, {11}, {21, 20, 11}, {12, 10}, {22}, {13, 12, 10}, {22}, {14, 13, 12, 10, 22}, {22}};
        int[] answers = {0, 0, n, n + 4, n, 2 * (n + 4), 1 + last, n, 2 * (1 + last), n, 2 * (1 + last) + n, n};
        for (int body : bodies[2 * kind + what]) {
            trace.add(body);
        }
        return answers[2 * kind + what];
    }

    private int at(int place, int k) {
        if (!inside(place, 10)) {
            return BAD;
        }
        if (shelf[place] == null) {
            return found(1);
        }
        return inside(k, shelf[place].numbers.size()) ? shelf[place].numbers.get(k) : BAD;
    }

    private int alike(int place, int what) {
        if (!inside(place, 10) || !inside(what, 4)) {
            return BAD;
        }
        if (shelf[place] == null) {
            return found(1);
        }
        int[] pairs = alikePairs(shelf[place].numbers, shelf[place].isMarks);
        return pairs == null ? NONE : pairs[what];
    }

    private static int[] alikePairs(List<Integer> numbers, boolean isMarks) {
        List<int[]> pairs = new ArrayList<>();
        for (int a = 0; a < numbers.size(); a++) {
            for (int b = a + 1; b < numbers.size(); b++) {
                pairs.add(new int[] {a, b, isMarks ? 0 : b - a, numbers.get(b) - numbers.get(a)});
            }
        }
        for (int first = 0; first < pairs.size(); first++) {
            for (int later = first + 1; later < pairs.size(); later++) {
                int[] p = pairs.get(first);
                int[] q = pairs.get(later);
                if (p[2] == q[2] && p[3] == q[3]) {
                    return new int[] {p[0], p[1], q[0], q[1]};
                }
            }
        }
        return null;
    }

    private static int dots(List<Integer> a, List<Integer> b, int r, int s) {
        int dots = 0;
        for (int row = 0; row < a.size(); row++) {
            for (int k = 0; k < b.size(); k++) {
                dots += row == k + r && a.get(row) == b.get(k) + s ? 1 : 0;
            }
        }
        return dots;
    }

    private int noOrders(int a, int b) {
        return noOrder(a) != 0 ? noOrder(a) : noOrder(b);
    }

    private int meeting(int a, int b, int r, int s) {
        if (!inside(a, 10) || !inside(b, 10) || r < -20 || r > 20 || s < -20 || s > 20) {
            return BAD;
        }
        return noOrders(a, b) != 0 ? noOrders(a, b) : dots(shelf[a].numbers, shelf[b].numbers, r, s);
    }

    private int together(int a, int b, boolean moved) {
        if (noOrders(a, b) != 0) {
            return noOrders(a, b);
        }
        int most = 0;
        for (int r = -16; r <= 16; r++) {
            for (int s = -16; s <= 16; s++) {
                if (!moved || r != 0 || s != 0) {
                    most = Math.max(most, dots(shelf[a].numbers, shelf[b].numbers, r, s));
                }
            }
        }
        return most;
    }

    private int echo(int[] v) {
        int n = v[3];
        if (!inside(v[0], 10) || !inside(v[1], 8) || n < 1 || n > 30 || !inside(v[4], 3)) {
            return BAD;
        }
        if (noOrder(v[0]) != 0) {
            return noOrder(v[0]);
        }
        if (sheets[v[1]] == null) {
            return found(1);
        }
        int[] items = sheets[v[1]].items;
        if (v[2] < 0 || (long) v[2] + 2 * n > items.length) {
            return found(2);
        }
        int[] heard = Arrays.copyOfRange(items, v[2], v[2] + 2 * n);
        int[] best = {0, 0, -1};
        for (int r = 0; r <= 20; r++) {
            for (int s = 0; s <= 20; s++) {
                int fits = 0;
                for (int k = 0; k < n; k++) {
                    fits += fits(shelf[v[0]].numbers, (long) heard[2 * k] - r, (long) heard[2 * k + 1] - s) ? 1 : 0;
                }
                best = fits > best[2] ? new int[] {r, s, fits} : best;
            }
        }
        return best[v[4]];
    }

    private static boolean fits(List<Integer> columns, long row, long column) {
        return row >= 0 && row < columns.size() && columns.get((int) row) == column;
    }

    // Numbers rise with their highest bit, so the first ruler that is met has the least end.
    private static int shortest(int n) {
        int marks = 1;
        while (Integer.bitCount(marks) != n || !isRuler(marks)) {
            marks += 2;
        }
        return 31 - Integer.numberOfLeadingZeros(marks);
    }

    private static boolean isRuler(int marks) {
        for (int distance = 1; distance < 31; distance++) {
            if (Integer.bitCount(marks & marks >> distance) > 1) {
                return false;
            }
        }
        return true;
    }

    private int count(int what) {
        if (!inside(what, 6)) {
            return BAD;
        }
        int count = 0;
        for (Object thing : what == 0 ? sheets : shelf) {
            count += thing != null && (what == 0 || thing instanceof Thing t && t.is(what - 1)) ? 1 : 0;
        }
        return count;
    }
}
