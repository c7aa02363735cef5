import java.util.Arrays;

/** The boundary sentences of the KINDS and of ALIKE, and of promises 15 to 17, 20 and 21. */
public final class KindsTest {
    private static final Checks C = new Checks();
    private static final int[] NOTHING = {Checks.NONE, Checks.NONE, Checks.NONE, Checks.NONE};

    public static void main(String[] args) {
        fewestRows();
        waysDownAndOn();
        perfectOnes();
        rulersThatAreNotPerfect();
        marksThatAreNoRuler();
        oneMarkAlone();
        kindsThatAThingIsToo();
        ofNothing();
        alikeAtTheEnds();
        alikeOfAllSmallOrders();
        alikeOfAllSmallMarks();
        alikeOfTheGreatestOnes();
        firstAndLastNumber();
        C.end("KindsTest");
    }

    private static void kind(String name, int want, int got) {
        C.due(name, got, want);
    }

    // "LONELY, an ORDER: all WAYS of two DOTS are unlike": of one row there is no WAY, of two rows just one.
    private static void fewestRows() {
        LonelyDots x = new LonelyDots();
        kind("one row", 2, Checks.order(x, 0, 0));
        kind("two rows on", 2, Checks.order(x, 0, 0, 1));
        kind("two rows back", 2, Checks.order(x, 0, 1, 0));
        kind("three rows on", 1, Checks.order(x, 0, 0, 1, 2));
        kind("three rows back", 1, Checks.order(x, 0, 2, 1, 0));
        kind("three rows, on and back", 2, Checks.order(x, 0, 0, 2, 1));
    }

    // "from the one in the lesser row to the other, how many rows down, how many columns on (below 0: back)."
    private static void waysDownAndOn() {
        LonelyDots x = new LonelyDots();
        kind("as many columns, but unlike rows down", 2, Checks.order(x, 0, 1, 0, 2, 3));
        kind("as many columns, on and back", 2, Checks.order(x, 0, 1, 2, 0));
        kind("one row down, twice on", 1, Checks.order(x, 0, 0, 2, 1, 3));
        kind("one row down, twice back", 1, Checks.order(x, 0, 3, 1, 2, 0));
        kind("the last two pairs", 1, Checks.order(x, 0, 0, 1, 5, 7, 3, 6, 4, 2));
        kind("the first pair and the last", 1, Checks.order(x, 0, 0, 1, 3, 6, 2, 7, 4, 5));
    }

    // "PERFECT, a RULER: these are all numbers from 1 to the greatest."
    private static void perfectOnes() {
        int[][] perfect = {{0, 1}, {0, 1, 3}, {0, 2, 3}, {0, 1, 4, 6}, {0, 2, 5, 6}};
        for (int[] marks : perfect) {
            for (int first : new int[] {0, 1, 200 - marks[marks.length - 1]}) {
                LonelyDots x = new LonelyDots();
                int[] moved = marks.clone();
                for (int k = 0; k < moved.length; k++) {
                    moved[k] += first;
                }
                kind(Arrays.toString(moved), 5, Checks.marks(x, 0, moved));
                C.due(Arrays.toString(moved) + " is told so", x.kind(0), 5);
            }
        }
    }

    // "RULER, MARKS: the distances of all two are unlike."
    private static void rulersThatAreNotPerfect() {
        LonelyDots x = new LonelyDots();
        kind("distance 2 alone", 4, Checks.marks(x, 0, 0, 2));
        kind("distance 200 alone", 4, Checks.marks(x, 0, 0, 200));
        kind("no distance 2", 4, Checks.marks(x, 0, 0, 1, 4));
        kind("no distance 1", 4, Checks.marks(x, 0, 0, 2, 5));
        kind("one distance is lacking", 4, Checks.marks(x, 0, 0, 1, 4, 9, 11));
        kind("the greatest mark is as many as there are distances", 4, Checks.marks(x, 0, 1, 3));
        kind("distances that are the marks", 4, Checks.marks(x, 0, 0, 1, 3, 7));
        kind("twelve", 4, Checks.marks(x, 0, 0, 2, 6, 24, 29, 40, 43, 55, 68, 75, 76, 85));
        kind("twelve, up to 200", 4, Checks.marks(x, 0, 115, 117, 121, 139, 144, 155, 158, 170, 183, 190, 191, 200));
    }

    private static void marksThatAreNoRuler() {
        LonelyDots x = new LonelyDots();
        kind("side by side", 3, Checks.marks(x, 0, 0, 1, 2));
        kind("apart", 3, Checks.marks(x, 0, 0, 1, 5, 6));
        kind("one within the other", 3, Checks.marks(x, 0, 0, 3, 7, 10));
        kind("all numbers from 1 to 9 are distances, one of them twice", 3, Checks.marks(x, 0, 0, 1, 2, 6, 9));
        kind("the two last pairs", 3, Checks.marks(x, 0, 0, 1, 98, 149, 200));
        kind("of twelve the first pair and the last", 3, Checks.marks(x, 0, 0, 2, 6, 24, 29, 40, 43, 55, 68, 75, 85, 87));
    }

    // "(One mark alone: PERFECT.)"
    private static void oneMarkAlone() {
        for (int mark = 0; mark <= 200; mark++) {
            LonelyDots x = new LonelyDots();
            kind("mark " + mark + " alone", 5, Checks.marks(x, 0, mark));
            C.due("mark " + mark + " alone, as PERFECT", x.as(0, 5), 1);
        }
    }

    // "the one as which it is told, or one that this is, too: 1, 0" and "KIND: it is not that, too."
    private static void kindsThatAThingIsToo() {
        int[][] places = {
            {Scene.LINE, 0, 1}, {Scene.LONELY, 0, 1, 2}, {Scene.SIXTEEN_ROWS, 0, 1, 2}, {Scene.ONE_ROW, 0, 1, 2},
            {Scene.MARKS, 0, 3}, {Scene.RULER, 0, 3, 4}, {Scene.PERFECT, 0, 3, 4, 5}, {Scene.ONE_MARK, 0, 3, 4, 5}};
        int[] sizes = {0, 3, 4, 4, 2, 2, 16, 1, 0, 1};
        for (int[] row : places) {
            for (int kind = 0; kind <= 5; kind++) {
                LonelyDots x = Scene.made(5);
                boolean fits = Arrays.binarySearch(row, 1, row.length, kind) >= 0;
                C.due("is " + row[0] + " " + kind, x.is(row[0], kind), fits ? 1 : 0);
                C.due("is leaves status()", x.status(), 5);
                C.due("as " + row[0] + " " + kind, x.as(row[0], kind), fits ? sizes[row[0]] : Checks.KIND);
                C.due("status() of as", x.status(), fits ? 0 : 3);
            }
        }
    }

    // "of nothing 0."
    private static void ofNothing() {
        LonelyDots x = Scene.made(2);
        for (int kind = 0; kind <= 5; kind++) {
            C.due("nothing is of KIND " + kind, x.is(Scene.EMPTY, kind), 0);
            C.due("status() stays", x.status(), 2);
        }
        C.bad("nothing, of no KIND below", x.is(Scene.EMPTY, -1));
        C.bad("nothing, of no KIND above", x.is(Scene.EMPTY, 6));
        C.due("nothing as anything", x.as(Scene.EMPTY, 0), Checks.NULL);
    }

    private static void alike(String name, LonelyDots x, int... want) {
        for (int what = 0; what < 4; what++) {
            C.due("ALIKE " + what + " of " + name, x.alike(0, what), want[what]);
        }
    }

    // "the first pair .., by the first one's row (place), then the second's, .. and the first such later pair."
    private static void alikeAtTheEnds() {
        LonelyDots x = new LonelyDots();
        Checks.order(x, 0, 0, 1, 3, 6, 2, 7, 4, 5);
        alike("the first and the last two rows", x, 0, 1, 6, 7);
        Checks.order(x, 0, 0, 1, 5, 7, 3, 6, 4, 2);
        alike("the last three rows", x, 5, 6, 6, 7);
        Checks.order(x, 0, 0, 3, 4, 6, 1, 5, 2, 7);
        alike("two halves", x, 0, 3, 4, 7);
        Checks.marks(x, 0, 0, 2, 6, 24, 29, 40, 43, 55, 68, 75, 85, 87);
        alike("the first two marks and the last", x, 0, 1, 10, 11);
        Checks.marks(x, 0, 0, 1, 98, 149, 200);
        alike("the last three marks", x, 2, 3, 3, 4);
    }

    private static int[] expected(int[] numbers, boolean isMarks) {
        int n = numbers.length;
        for (int a = 0; a < n; a++) {
            for (int b = a + 1; b < n; b++) {
                for (int c = a; c < n; c++) {
                    for (int d = c + 1; d < n; d++) {
                        boolean later = c > a || d > b;
                        boolean asFar = isMarks || b - a == d - c;
                        if (later && asFar && numbers[b] - numbers[a] == numbers[d] - numbers[c]) {
                            return new int[] {a, b, c, d};
                        }
                    }
                }
            }
        }
        return NOTHING;
    }

    private static void alikeOfAllSmallOrders() {
        for (int n = 1; n <= 5; n++) {
            ordersFrom(new int[n], 0);
        }
    }

    private static void ordersFrom(int[] columns, int row) {
        if (row == columns.length) {
            LonelyDots x = new LonelyDots();
            int[] want = expected(columns, false);
            kind(Arrays.toString(columns), want == NOTHING ? 2 : 1, Checks.order(x, 0, columns));
            alike(Arrays.toString(columns), x, want);
            return;
        }
        for (int column = 0; column < columns.length; column++) {
            boolean used = false;
            for (int k = 0; k < row; k++) {
                used |= columns[k] == column;
            }
            if (!used) {
                columns[row] = column;
                ordersFrom(columns, row + 1);
            }
        }
    }

    private static void alikeOfAllSmallMarks() {
        for (int chosen = 1; chosen < 1 << 9; chosen++) {
            int[] marks = new int[Integer.bitCount(chosen)];
            int k = 0;
            for (int mark = 0; mark < 9; mark++) {
                if ((chosen >> mark & 1) != 0) {
                    marks[k++] = mark;
                }
            }
            LonelyDots x = new LonelyDots();
            int[] want = expected(marks, true);
            kind(Arrays.toString(marks), want != NOTHING ? 3 : isPerfect(marks) ? 5 : 4, Checks.marks(x, 0, marks));
            alike(Arrays.toString(marks), x, want);
        }
    }

    private static boolean isPerfect(int[] marks) {
        int distances = 0;
        for (int a : marks) {
            for (int b : marks) {
                distances |= b > a ? 1 << b - a : 0;
            }
        }
        return (distances + 2 & distances) == 0;
    }

    private static void alikeOfTheGreatestOnes() {
        LonelyDots x = new LonelyDots();
        int[][] rows = {
            {0, 13, 8, 12, 15, 6, 5, 10, 2, 11, 7, 9, 3, 1, 14, 4}, {10, 7, 3, 8, 9, 2, 5, 13, 12, 0, 14, 4, 6, 1, 11, 15},
            {4, 14, 1, 3, 9, 7, 11, 2, 10, 5, 6, 15, 12, 8, 13, 0}, {2, 6, 14, 7, 12, 11, 9, 10, 4, 1, 13, 3, 5, 8, 15, 0}};
        int[][] want = {{0, 1, 13, 14}, {0, 7, 8, 15}, {1, 2, 14, 15}, {10, 12, 13, 15}};
        for (int k = 0; k < rows.length; k++) {
            kind("16 rows", 1, Checks.order(x, 0, rows[k]));
            alike("16 rows", x, want[k]);
        }
        x.powers(0, 17, 3, 0);
        alike("16 rows, LONELY", x, NOTHING);
        Checks.marks(x, 0, 0, 2, 6, 24, 29, 40, 43, 55, 68, 75, 76, 85);
        alike("12 marks, a RULER", x, NOTHING);
        Checks.order(x, 0, 0);
        alike("one row", x, NOTHING);
        Checks.marks(x, 0, 200);
        alike("one mark", x, NOTHING);
    }

    // "c(k) of an ORDER, mark k of MARKS. .. then BAD: k."
    private static void firstAndLastNumber() {
        LonelyDots x = Scene.made(4);
        C.due("row 0 of 16", x.at(Scene.SIXTEEN_ROWS, 0), 2);
        C.due("row 15 of 16", x.at(Scene.SIXTEEN_ROWS, 15), 0);
        C.due("row 0 of one", x.at(Scene.ONE_ROW, 0), 0);
        C.due("mark 0 of one", x.at(Scene.ONE_MARK, 0), 127);
        C.due("mark 1 of two", x.at(Scene.RULER, 1), 100);
        C.bad("row 16 of 16", x.at(Scene.SIXTEEN_ROWS, 16));
        C.bad("row 1 of one", x.at(Scene.ONE_ROW, 1));
        C.bad("mark 1 of one", x.at(Scene.ONE_MARK, 1));
        C.bad("mark 2 of two", x.at(Scene.RULER, 2));
        C.bad("mark -1", x.at(Scene.RULER, -1));
        C.due("k of nothing: NULL ahead of BAD", x.at(Scene.EMPTY, -1), Checks.NULL);
        C.bad("no place, ahead of NULL", x.at(10, -1));
        C.due("status() of NULL, not of BAD", x.status(), 1);
    }
}
