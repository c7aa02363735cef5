/** Compares answers with those that are due, and tells at the end whether all were. */
final class Checks {
    static final int NULL = -1000011, PLACE = -1000012, KIND = -1000013, SIZE = -1000014, STORE = -1000015;
    static final int NONE = -1000000, BAD = -1000001, FULL = -1000003;

    private int made;
    private int wrong;

    void due(String call, long got, long want) {
        made++;
        if (got != want) {
            wrong++;
            System.out.println(call + " answered " + got + ", due is " + want);
        }
    }

    void bad(String call, long got) {
        due(call, got, BAD);
    }

    void end(String name) {
        System.out.println(name + ": " + made + " checks, " + wrong + " wrong");
        if (wrong != 0 || made == 0) {
            System.exit(1);
        }
    }

    /** Writes numbers into a SHEET of ints, laid anew and just long enough. */
    static void write(LonelyDots x, int sheet, int... numbers) {
        x.sheet(sheet, 2, numbers.length);
        for (int i = 0; i < numbers.length; i++) {
            x.set(sheet, i, numbers[i]);
        }
    }

    /** Puts an ORDER on a place by way of SHEET 7. */
    static int order(LonelyDots x, int place, int... columns) {
        write(x, 7, columns);
        return x.order(place, 7, 0, columns.length);
    }

    /** Puts MARKS on a place by way of SHEET 7. */
    static int marks(LonelyDots x, int place, int... marks) {
        write(x, 7, marks);
        return x.marks(place, 7, 0, marks.length);
    }

    /** 0, 1, .., n - 1: a board's long line, or marks side by side. */
    static int[] line(int n) {
        int[] numbers = new int[n];
        for (int k = 0; k < n; k++) {
            numbers[k] = k;
        }
        return numbers;
    }

    /** n - 1, .., 1, 0. */
    static int[] lineBack(int n) {
        int[] numbers = new int[n];
        for (int k = 0; k < n; k++) {
            numbers[k] = n - 1 - k;
        }
        return numbers;
    }

    /** Checks all numbers of a THING, and that there are no more of them. */
    void numbers(String call, LonelyDots x, int place, int... want) {
        due(call + " size", x.as(place, 0), want.length);
        for (int k = 0; k < want.length; k++) {
            due(call + " at " + k, x.at(place, k), want[k]);
        }
        due(call + " at the end", x.at(place, want.length), BAD);
    }
}
