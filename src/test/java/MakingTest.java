import java.util.Arrays;

/** The boundary sentences of part 2 of the terms (POWERS, SUMS, CORNERS, TURNS, ranks), and of promises 8 to 14. */
public final class MakingTest {
    private static final Checks C = new Checks();
    private static final int[] PRIMES = {3, 5, 7, 11, 13, 17};
    private static final int[][] ROOTS = {
        {2}, {2, 3}, {3, 5}, {2, 6, 7, 8}, {2, 6, 7, 11}, {3, 5, 6, 7, 10, 11, 12, 14}};

    public static void main(String[] args) {
        powersOfEveryRoot();
        rootsAlone();
        primesAlone();
        sumsOfAllRoots();
        takeOfTwoRowsAndOfSixteen();
        takeOfNoDotAndOfOneRow();
        putToOneRowAndToFifteen();
        takenAsItWasPut();
        oneCornerOfTwoDots();
        bitsOneAfterTheOther();
        turnsOfTheFewestAndMostRows();
        turnedBack();
        lonelyOrdersInOrder();
        fewestAndMostRowsRanked();
        clearedOrNot();
        C.end("MakingTest");
    }

    private static int power(int g, int exponent, int p) {
        int power = 1;
        for (int k = 0; k < exponent; k++) {
            power = power * g % p;
        }
        return power;
    }

    // "p (3 to 17) .. e (0 to 15): the ORDER of p - 1, c(k) being g to the power k + e + 1 modulo p, less 1."
    // "(Both are always LONELY.)"
    private static void powersOfEveryRoot() {
        for (int prime = 0; prime < PRIMES.length; prime++) {
            int p = PRIMES[prime];
            for (int g : ROOTS[prime]) {
                for (int e = 0; e <= 15; e++) {
                    LonelyDots x = new LonelyDots();
                    int[] want = new int[p - 1];
                    for (int k = 0; k < want.length; k++) {
                        want[k] = power(g, k + e + 1, p) - 1;
                    }
                    String name = "powers " + p + " " + g + " " + e;
                    C.due(name, x.powers(9, p, g, e), 2);
                    C.numbers(name, x, 9, want);
                }
                LonelyDots x = new LonelyDots();
                C.bad("e below 0", x.powers(0, p, g, -1));
                C.bad("e above 15", x.powers(0, p, g, 16));
                C.due("nothing was put", x.count(1), 0);
            }
        }
    }

    // "a number g, of which the powers .. are all of 1 to p - 1 modulo p (a ROOT)": "g (1 to p - 1, a ROOT)".
    private static void rootsAlone() {
        for (int prime = 0; prime < PRIMES.length; prime++) {
            int p = PRIMES[prime];
            int root = ROOTS[prime][0];
            for (int g = -p; g <= 2 * p; g++) {
                LonelyDots x = new LonelyDots();
                boolean isRoot = Arrays.binarySearch(ROOTS[prime], g) >= 0;
                int inSums = isRoot && p >= 5 ? 2 : Checks.BAD;
                C.due("powers " + p + " " + g, x.powers(0, p, g, 0), isRoot ? 2 : Checks.BAD);
                C.due("sums " + p + ", g " + g, x.sums(1, p, g, root), inSums);
                C.due("sums " + p + ", h " + g, x.sums(2, p, root, g), inSums);
                C.due("THINGS", x.count(1), isRoot ? (p >= 5 ? 3 : 1) : 0);
            }
        }
    }

    // "for a prime number p (3 to 17)" and "for a prime p (5 to 17)".
    private static void primesAlone() {
        for (int p = -20; p <= 40; p++) {
            int prime = Arrays.binarySearch(PRIMES, p);
            LonelyDots x = new LonelyDots();
            int powers = 0;
            int sums = 0;
            for (int g = 1; g <= 40; g++) {
                powers += x.powers(0, p, g, 0) == Checks.BAD ? 0 : 1;
                sums += x.sums(0, p, g, g) == Checks.BAD ? 0 : 1;
            }
            C.due("powers of " + p, powers, prime < 0 ? 0 : ROOTS[prime].length);
            C.due("sums of " + p, sums, prime < 1 ? 0 : ROOTS[prime].length);
        }
        LonelyDots x = new LonelyDots();
        C.due("the least p of POWERS", x.powers(0, 3, 2, 0), 2);
        C.numbers("the least p of POWERS", x, 0, 1, 0);
        C.bad("the least p of POWERS is none of SUMS", x.sums(1, 3, 2, 2));
        C.bad("2 is prime, but too small", x.powers(1, 2, 1, 0));
        C.bad("19 is prime, but too large", x.powers(1, 19, 2, 0));
        C.bad("19 is prime, but too large for SUMS", x.sums(1, 19, 2, 2));
    }

    // "p (5 to 17), ROOTS g and h: the ORDER of p - 2, row i - 1 having column j - 1 where .. are 1 together".
    private static void sumsOfAllRoots() {
        for (int prime = 1; prime < PRIMES.length; prime++) {
            int p = PRIMES[prime];
            for (int g : ROOTS[prime]) {
                for (int h : ROOTS[prime]) {
                    LonelyDots x = new LonelyDots();
                    String name = "sums " + p + " " + g + " " + h;
                    C.due(name, x.sums(0, p, g, h), 2);
                    C.due(name + ": rows", x.as(0, 2), p - 2);
                    for (int i = 1; i <= p - 2; i++) {
                        int j = x.at(0, i - 1) + 1;
                        C.due(name + ": column of row " + (i - 1), (power(g, i, p) + power(h, j, p)) % p, 1);
                    }
                }
            }
        }
    }

    // "its row and column go, others close up."
    private static void takeOfTwoRowsAndOfSixteen() {
        LonelyDots x = new LonelyDots();
        Checks.order(x, 0, 0, 1);
        Checks.order(x, 1, 1, 0);
        for (int corner = 0; corner < 4; corner++) {
            int place = corner == 0 || corner == 3 ? 0 : 1;
            C.due("two rows, CORNER " + corner, x.take(2, place, corner), 2);
            C.numbers("two rows, CORNER " + corner, x, 2, 0);
            C.due("two rows, no DOT in CORNER " + corner, x.take(3, 1 - place, corner), Checks.NONE);
        }
        C.due("no DOT: nothing is put", x.clear(3), 0);
        Checks.order(x, 0, Checks.line(16));
        C.due("16 rows, CORNER 0", x.take(1, 0, 0), 1);
        C.numbers("16 rows, CORNER 0", x, 1, Checks.line(15));
        C.due("16 rows, CORNER 3", x.take(1, 0, 3), 1);
        C.numbers("16 rows, CORNER 3", x, 1, Checks.line(15));
        Checks.order(x, 0, 3, 1, 0, 2);
        C.due("CORNER 1", x.take(1, 0, 1), 2);
        C.numbers("CORNER 1: columns stay", x, 1, 1, 0, 2);
        Checks.order(x, 0, 2, 3, 1, 0);
        C.due("CORNER 2", x.take(1, 0, 2), 2);
        C.numbers("CORNER 2: columns close up", x, 1, 1, 2, 0);
    }

    // "then NONE: there is no DOT, or n is 1."
    private static void takeOfNoDotAndOfOneRow() {
        Edges edges = new Edges(C);
        for (int corner = 0; corner < 4; corner++) {
            int c = corner;
            edges.told("n is 1, CORNER " + c, Checks.NONE, x -> x.take(Scene.EMPTY, Scene.ONE_ROW, c));
            edges.told("n is 1, in place, CORNER " + c, Checks.NONE, x -> x.take(Scene.ONE_ROW, Scene.ONE_ROW, c));
        }
        edges.told("no DOT in CORNER 1", Checks.NONE, x -> x.take(Scene.EMPTY, Scene.LINE, 1));
        edges.told("no DOT in CORNER 2", Checks.NONE, x -> x.take(Scene.MARKS, Scene.LINE, 2));
        edges.told("no DOT in CORNER 3", Checks.NONE, x -> x.take(Scene.LONELY, Scene.LONELY, 3));
        edges.told("no DOT in CORNER 0", Checks.NONE, x -> x.take(Scene.EMPTY, Scene.SIXTEEN_ROWS, 0));
        edges.taken("a DOT in CORNER 0", 2, x -> x.take(Scene.EMPTY, Scene.LONELY, 0));
    }

    // "a new row and column come there with a DOT in the CORNER, others make room." and "FULL: n is 16."
    private static void putToOneRowAndToFifteen() {
        LonelyDots x = new LonelyDots();
        Checks.order(x, 0, 0);
        for (int corner = 0; corner < 4; corner++) {
            boolean on = corner == 0 || corner == 3;
            C.due("one row, CORNER " + corner, x.put(1, 0, corner), 2);
            C.numbers("one row, CORNER " + corner, x, 1, on ? 0 : 1, on ? 1 : 0);
        }
        for (int corner = 0; corner < 4; corner++) {
            x.sums(0, 17, 3, 3);
            C.due("15 rows, CORNER " + corner, x.put(1, 0, corner) > 0 ? 1 : 0, 1);
            C.due("16 rows now", x.as(1, 1), 16);
            C.due("the DOT", x.at(1, corner / 2 * 15), corner % 2 * 15);
            x.kind(9);
            for (int next = 0; next < 4; next++) {
                C.due("FULL, CORNER " + next, x.put(2, 1, next), Checks.FULL);
                C.due("FULL in place, CORNER " + next, x.put(1, 1, next), Checks.FULL);
            }
            C.due("status() stays", x.status(), 1);
            C.due("FULL: nothing is put", x.clear(2), 0);
            C.due("FULL: 16 rows still", x.as(1, 1), 16);
        }
    }

    private static void takenAsItWasPut() {
        for (int n = 1; n <= 15; n++) {
            for (int corner = 0; corner < 4; corner++) {
                LonelyDots x = new LonelyDots();
                int[] columns = Checks.line(n);
                columns[0] = n - 1;
                columns[n - 1] = 0;
                int kind = Checks.order(x, 0, columns);
                x.put(1, 0, corner);
                C.due("taken as it was put", x.take(2, 1, corner), kind);
                C.numbers("taken as it was put", x, 2, columns);
                C.numbers("what it was put to stays", x, 0, columns);
            }
        }
    }

    private static void oneCornerOfTwoDots() {
        LonelyDots x = new LonelyDots();
        Checks.order(x, 0, 0, 2, 1, 3);
        C.due("CORNER 0 goes", x.take(1, 0, 0), 2);
        C.numbers("CORNER 0 goes", x, 1, 1, 0, 2);
        C.due("CORNER 3 goes", x.take(1, 0, 3), 2);
        C.numbers("CORNER 3 goes", x, 1, 0, 2, 1);
        C.due("in place", x.take(0, 0, 0), 2);
        C.numbers("in place", x, 0, 1, 0, 2);
    }

    // "bits: 1: rows the other way round ..; then 2: columns likewise; then 4: rows and columns change places."
    private static void bitsOneAfterTheOther() {
        int[] columns = {0, 1, 4, 2, 3, 5};
        for (int turn = 0; turn < 8; turn++) {
            LonelyDots x = new LonelyDots();
            Checks.order(x, 0, columns);
            x.turn(1, 0, turn);
            x.turn(2, 0, turn & 1);
            x.turn(2, 2, turn & 2);
            x.turn(2, 2, turn & 4);
            for (int k = 0; k < columns.length; k++) {
                C.due("TURN " + turn + " in one and bit by bit", x.at(1, k), x.at(2, k));
            }
        }
        LonelyDots x = new LonelyDots();
        Checks.order(x, 0, 1, 0, 2);
        x.turn(1, 0, 0);
        C.numbers("TURN 0 is none", x, 1, 1, 0, 2);
        x.turn(1, 0, 1);
        C.numbers("TURN 1", x, 1, 2, 0, 1);
        x.turn(1, 0, 2);
        C.numbers("TURN 2", x, 1, 1, 2, 0);
        x.turn(1, 0, 4);
        C.numbers("TURN 4", x, 1, 1, 0, 2);
        x.turn(1, 0, 5);
        C.numbers("TURN 5: rows, then places", x, 1, 1, 2, 0);
        x.turn(1, 0, 6);
        C.numbers("TURN 6: columns, then places", x, 1, 2, 0, 1);
    }

    private static void turnsOfTheFewestAndMostRows() {
        for (int turn = 0; turn < 8; turn++) {
            LonelyDots x = new LonelyDots();
            Checks.order(x, 0, 0);
            C.due("one row, TURN " + turn, x.turn(1, 0, turn), 2);
            C.numbers("one row, TURN " + turn, x, 1, 0);
            x.powers(0, 17, 3, 0);
            C.due("16 rows, LONELY, TURN " + turn, x.turn(1, 0, turn), 2);
            C.due("16 rows", x.as(1, 2), 16);
            Checks.order(x, 0, Checks.line(16));
            C.due("16 rows, TURN " + turn, x.turn(1, 0, turn), 1);
            boolean back = Integer.bitCount(turn & 3) == 1;
            C.due("row 0, TURN " + turn, x.at(1, 0), back ? 15 : 0);
            C.due("row 15, TURN " + turn, x.at(1, 15), back ? 0 : 15);
        }
    }

    private static void turnedBack() {
        int[] back = {0, 1, 2, 3, 4, 6, 5, 7};
        for (int turn = 0; turn < 8; turn++) {
            LonelyDots x = new LonelyDots();
            Checks.order(x, 0, 0, 1, 4, 2, 3, 5);
            x.turn(0, 0, turn);
            x.turn(0, 0, back[turn]);
            C.numbers("TURNED by " + turn + " and back", x, 0, 0, 1, 4, 2, 3, 5);
        }
    }

    // "ORDER of ORDERS of one n: by c(0), c(1), .., the lesser first." "NONE: there are not so many, or i is below 0."
    private static void lonelyOrdersInOrder() {
        int[] many = {1, 2, 4, 12, 40, 116, 200};
        for (int n = 1; n <= 7; n++) {
            int earlier = -1;
            for (int i = 0; i < many[n - 1]; i++) {
                LonelyDots x = new LonelyDots();
                C.due("ORDER " + i + " of " + n, x.nth(0, n, i), 2);
                C.due("rows", x.as(0, 2), n);
                C.due("nothing is ALIKE", x.alike(0, 0), Checks.NONE);
                int rank = 0;
                for (int k = 0; k < n; k++) {
                    rank = 8 * rank + x.at(0, k);
                }
                C.due("ORDER " + i + " of " + n + " comes later", rank > earlier ? 1 : 0, 1);
                earlier = rank;
            }
            LonelyDots x = new LonelyDots();
            for (int i : new int[] {Integer.MIN_VALUE, -1, many[n - 1], many[n - 1] + 1, Integer.MAX_VALUE}) {
                x.kind(9);
                C.due("no ORDER " + i + " of " + n, x.nth(0, n, i), Checks.NONE);
                C.due("status() of NONE", x.status(), 0);
                C.due("nothing is put", x.count(1), 0);
            }
        }
    }

    private static void fewestAndMostRowsRanked() {
        LonelyDots x = new LonelyDots();
        C.due("n 1", x.nth(9, 1, 0), 2);
        C.numbers("n 1", x, 9, 0);
        C.due("n 2, the first", x.nth(9, 2, 0), 2);
        C.numbers("n 2, the first", x, 9, 0, 1);
        C.due("n 2, the last", x.nth(9, 2, 1), 2);
        C.numbers("n 2, the last", x, 9, 1, 0);
        C.due("n 7, the first", x.nth(9, 7, 0), 2);
        C.numbers("n 7, the first", x, 9, 0, 1, 5, 3, 6, 2, 4);
        C.due("n 7, the last", x.nth(9, 7, 199), 2);
        C.numbers("n 7, the last", x, 9, 6, 5, 1, 3, 0, 4, 2);
        C.bad("n 0, no i", x.nth(9, 0, -1));
        C.bad("n 8, no i", x.nth(9, 8, -1));
        C.numbers("stays", x, 9, 6, 5, 1, 3, 0, 4, 2);
    }

    // "A place is empty from now on: 1; 0: it was. BAD."
    private static void clearedOrNot() {
        for (int place = 0; place < 10; place++) {
            LonelyDots x = Scene.made(3);
            int things = x.count(1);
            int cleared = place == Scene.EMPTY || place == Scene.EMPTY_TOO ? 0 : 1;
            C.due("clear " + place, x.clear(place), cleared);
            C.due("status() stays", x.status(), 3);
            C.due("THE TRACE stays", x.trace(0), 14);
            C.due("it was empty", x.clear(place), 0);
            C.due("one THING fewer, or none", x.count(1), things - cleared);
            C.due("empty from now on", x.kind(place), Checks.NULL);
            C.due("and taken again", x.nth(place, 1, 0), 2);
        }
    }
}
