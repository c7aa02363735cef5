/** The boundary sentences of part 3 of the terms (MEETING, MOST, AN ECHO), and of promises 22 to 25. */
public final class MovingTest {
    private static final Checks C = new Checks();

    public static void main(String[] args) {
        eachTwoDotsMeetByOneMove();
        farthestMoves();
        movedByRowsAndColumns();
        mostOfTheFewestRows();
        mostIsTheGreatestMeeting();
        togetherOfTheFewestRows();
        togetherIsTheGreatestMeeting();
        togetherByTheFarthestMove();
        movesOfAnEcho();
        rowsOfAnEcho();
        notAllAndOthers();
        leastMoveOfSeveral();
        nothingFits();
        fewestAndMostPairs();
        farItems();
        C.end("MovingTest");
    }

    /** Places 0 to 5: ORDERS of one row to 16. */
    private static LonelyDots orders() {
        LonelyDots x = new LonelyDots();
        Checks.order(x, 0, 0);
        Checks.order(x, 1, 1, 0);
        Checks.order(x, 2, 2, 0, 1, 4, 3);
        Checks.order(x, 3, Checks.line(16));
        Checks.order(x, 4, Checks.lineBack(16));
        x.powers(5, 17, 3, 7);
        x.sums(6, 13, 2, 6);
        return x;
    }

    // "b moved by r rows and s columns (each -20 to 20)": each DOT of b meets each DOT of a by just one of these moves.
    private static void eachTwoDotsMeetByOneMove() {
        int[] rows = {1, 2, 5, 16, 16, 16, 11};
        for (int a = 0; a < 7; a++) {
            for (int b = 0; b < 7; b++) {
                int met = 0;
                for (int r = -20; r <= 20; r++) {
                    LonelyDots x = orders();
                    for (int s = -20; s <= 20; s++) {
                        met += x.meeting(a, b, r, s);
                    }
                }
                C.due("DOTS of " + a + " and " + b + " that meet", met, rows[a] * rows[b]);
            }
        }
    }

    private static void farthestMoves() {
        LonelyDots x = orders();
        C.due("the last DOT of a, the first of b", x.meeting(3, 3, 15, 15), 1);
        C.due("the first DOT of a, the last of b", x.meeting(3, 3, -15, -15), 1);
        C.due("lines back, down", x.meeting(4, 4, 15, -15), 1);
        C.due("lines back, up", x.meeting(4, 4, -15, 15), 1);
        C.due("just beyond, down", x.meeting(3, 3, 16, 16), 0);
        C.due("just beyond, up", x.meeting(3, 3, -16, -16), 0);
        for (int r : new int[] {-20, 20}) {
            for (int s : new int[] {-20, 20}) {
                x.kind(9);
                C.due("the farthest move", x.meeting(3, 4, r, s), 0);
                C.due("status()", x.status(), 0);
                C.bad("farther rows", x.meeting(3, 4, r + r / 20, s));
                C.bad("farther columns", x.meeting(3, 4, r, s + s / 20));
            }
        }
    }

    // "DOTS of a at which a DOT of b is then: row k + r, column c(k) + s of b's row k."
    private static void movedByRowsAndColumns() {
        LonelyDots x = new LonelyDots();
        Checks.order(x, 0, 4, 0, 2, 1, 3);
        Checks.order(x, 1, 0);
        for (int k = 0; k < 5; k++) {
            C.due("b moved to row " + k, x.meeting(0, 1, k, x.at(0, k)), 1);
            C.due("b moved beside row " + k, x.meeting(0, 1, k, x.at(0, k) + 1), 0);
            C.due("moved the other way", x.meeting(1, 0, -k, -x.at(0, k)), 1);
        }
        C.due("columns moved for rows", x.meeting(0, 1, 4, 0), 0);
        C.due("not moved", x.meeting(0, 0, 0, 0), 5);
    }

    // "MOST of a with itself: the greatest, moved by anything but 0, 0."
    private static void mostOfTheFewestRows() {
        LonelyDots x = orders();
        C.due("one row: no other DOT", x.most(0), 0);
        C.due("status()", x.status(), 0);
        C.due("two rows", x.most(1), 1);
        C.due("16 rows on", x.most(3), 15);
        C.due("16 rows back", x.most(4), 15);
        C.due("16 rows, LONELY", x.most(5), 1);
        C.due("11 rows, LONELY", x.most(6), 1);
    }

    private static int greatest(int[] a, int[] b, boolean moved) {
        int most = 0;
        for (int r = -20; r <= 20; r++) {
            LonelyDots x = new LonelyDots();
            Checks.order(x, 0, a);
            Checks.order(x, 1, b);
            for (int s = -20; s <= 20; s++) {
                if (!moved || r != 0 || s != 0) {
                    most = Math.max(most, x.meeting(0, 1, r, s));
                }
            }
        }
        return most;
    }

    private static void mostIsTheGreatestMeeting() {
        int[][] some = {{0, 2, 1, 3}, {3, 1, 2, 0}, {2, 0, 3, 1}, {0, 3, 1, 4, 2, 5}, {5, 0, 4, 1, 3, 2}, {1, 0, 3, 2, 5, 4},
            {0, 1, 2, 6, 5, 4, 3, 7}, {8, 0, 7, 1, 6, 2, 5, 3, 4}};
        for (int[] columns : some) {
            LonelyDots x = new LonelyDots();
            Checks.order(x, 0, columns);
            C.due("MOST", x.most(0), greatest(columns, columns, true));
        }
    }

    // "The greatest MEETING of two ORDERS, b moved by anything."
    private static void togetherOfTheFewestRows() {
        LonelyDots x = orders();
        C.due("one row and one", x.together(0, 0), 1);
        for (int place = 0; place < 7; place++) {
            C.due("one row and more", x.together(0, place), 1);
            C.due("more rows and one", x.together(place, 0), 1);
        }
        C.due("itself: moved by 0, 0, too", x.together(5, 5), 16);
        C.due("16 rows on and back", x.together(3, 4), 1);
        C.due("status()", x.status(), 0);
    }

    private static void togetherIsTheGreatestMeeting() {
        int[][] some = {
            {1, 0}, {0, 1}, {0, 2, 1}, {2, 0, 1, 4, 3}, {3, 4, 0, 2, 1}, {0, 1, 5, 2, 3, 4}, {5, 4, 2, 3, 0, 1, 6}};
        for (int[] a : some) {
            for (int[] b : some) {
                LonelyDots x = new LonelyDots();
                Checks.order(x, 0, a);
                Checks.order(x, 1, b);
                C.due("together", x.together(0, 1), greatest(a, b, false));
            }
        }
    }

    // The rows that meet stand at one end of a and at the other of b, so the move is about as far as the boards reach.
    private static void togetherByTheFarthestMove() {
        LonelyDots x = new LonelyDots();
        Checks.order(x, 0, 3, 2, 1, 0, 4);
        Checks.order(x, 1, 0, 4, 3, 2, 1);
        C.due("four in a line back", x.together(0, 1), 4);
        Checks.order(x, 0, 4, 3, 2, 0, 1);
        Checks.order(x, 1, 0, 1, 4, 3, 2);
        C.due("three in a line back", x.together(0, 1), 3);
        C.due("the other way round", x.together(1, 0), 3);
        int[] a = Checks.lineBack(16);
        a[14] = 0;
        a[15] = 1;
        Checks.order(x, 0, a);
        Checks.order(x, 1, 0, 1);
        C.due("the last two rows of 16 alone go on", x.together(0, 1), 2);
        C.due("the other way round", x.together(1, 0), 2);
        a = Checks.lineBack(16);
        a[0] = 14;
        a[1] = 15;
        Checks.order(x, 0, a);
        C.due("the first two rows of 16 alone go on", x.together(0, 1), 2);
        C.due("the other way round", x.together(1, 0), 2);
    }

    private static void echo(String name, LonelyDots x, int n, int r, int s, int fits) {
        C.due(name + ": r", x.echo(0, 0, 0, n, 0), r);
        C.due(name + ": s", x.echo(0, 0, 0, n, 1), s);
        C.due(name + ": how many FIT", x.echo(0, 0, 0, n, 2), fits);
        C.due(name + ": status()", x.status(), 0);
    }

    // "by a move r, s (0 to 20 each) a pair FITS".
    private static void movesOfAnEcho() {
        for (int row = -1; row <= 21; row++) {
            for (int column = -1; column <= 21; column++) {
                LonelyDots x = new LonelyDots();
                Checks.order(x, 0, 0);
                Checks.write(x, 0, row, column);
                boolean fits = Math.min(row, column) >= 0 && Math.max(row, column) <= 20;
                echo("one DOT at " + row + ", " + column, x, 1, fits ? row : 0, fits ? column : 0, fits ? 1 : 0);
            }
        }
    }

    // "if some row k of the ORDER is row - r, its column c(k) being column - s."
    private static void rowsOfAnEcho() {
        LonelyDots x = new LonelyDots();
        x.powers(0, 17, 3, 0);
        for (int k = 0; k < 16; k++) {
            Checks.write(x, 0, 20 + k, 20 + x.at(0, k), 20 + (k + 1) % 16, 20 + x.at(0, (k + 1) % 16));
            echo("rows " + k + " and the next, moved by 20, 20", x, 2, 20, 20, 2);
        }
        x.sheet(0, 0, 32);
        for (int k = 0; k < 16; k++) {
            x.set(0, 2 * k, 20 + k);
            x.set(0, 2 * k + 1, 20 + x.at(0, k));
        }
        echo("all 16 DOTS, moved by 20, 20", x, 16, 20, 20, 16);
        Checks.write(x, 0, 36, 25);
        echo("one row beyond the last one", x, 1, 0, 0, 0);
        Checks.write(x, 0, 25, 36);
        echo("one column beyond the last one", x, 1, 0, 0, 0);
    }

    // "pairs of ITEMS, row and column, of DOTS that were heard, perhaps not all, perhaps others".
    private static void notAllAndOthers() {
        LonelyDots x = new LonelyDots();
        Checks.order(x, 0, 0, 1, 3, 2);
        Checks.write(x, 0, 5, 6, 6, 7, 7, 9, 8, 8);
        echo("all", x, 4, 5, 6, 4);
        Checks.write(x, 0, 8, 8, 5, 6);
        echo("not all, the last one first", x, 2, 5, 6, 2);
        Checks.write(x, 0, 5, 6, 0, 19, 6, 7, 19, 0);
        echo("others among them", x, 4, 5, 6, 2);
        Checks.write(x, 0, 5, 6, 5, 6, 8, 8);
        echo("one heard twice", x, 3, 5, 6, 3);
    }

    // "The move for which most pairs FIT, of several the least r, then s."
    private static void leastMoveOfSeveral() {
        LonelyDots x = new LonelyDots();
        Checks.order(x, 0, 1, 0);
        Checks.write(x, 0, 9, 9);
        echo("the least r, though s is greater", x, 1, 8, 9, 1);
        Checks.write(x, 0, 9, 9, 9, 5);
        echo("of one r the least s", x, 2, 8, 5, 1);
        Checks.write(x, 0, 9, 5, 9, 9);
        echo("of one r the least s, heard first", x, 2, 8, 5, 1);
        Checks.write(x, 0, 3, 9, 12, 2);
        echo("the least r, heard first", x, 2, 2, 9, 1);
        Checks.write(x, 0, 12, 2, 3, 9);
        echo("the least r, heard last", x, 2, 2, 9, 1);
        Checks.write(x, 0, 3, 9, 12, 2, 13, 1);
        echo("most FIT by a greater move", x, 3, 12, 1, 2);
        Checks.write(x, 0, 0, 0);
        echo("row 0, column 0: no move below 0", x, 1, 0, 0, 0);
        Checks.write(x, 0, 1, 0);
        echo("row 1, column 0", x, 1, 0, 0, 1);
        Checks.write(x, 0, 0, 1);
        echo("row 0, column 1", x, 1, 0, 0, 1);
        Checks.order(x, 0, 0, 2, 1, 3);
        Checks.write(x, 0, 5, 6, 6, 8);
        echo("two WAYS are alike: both moves FIT as many", x, 2, 3, 5, 2);
    }

    private static void nothingFits() {
        LonelyDots x = new LonelyDots();
        Checks.order(x, 0, 0, 1);
        Checks.write(x, 0, 22, 22, -1, -1, 0, -1);
        echo("nothing FITS: of all moves the least", x, 3, 0, 0, 0);
    }

    // "n pairs (1 to 30)".
    private static void fewestAndMostPairs() {
        LonelyDots x = new LonelyDots();
        x.nth(0, 2, 0);
        x.sheet(0, 1, 60);
        for (int pair = 0; pair < 30; pair++) {
            x.set(0, 2 * pair, 11 + pair % 2);
            x.set(0, 2 * pair + 1, 4 + pair % 2);
        }
        echo("30 pairs", x, 30, 11, 4, 30);
        echo("29 pairs", x, 29, 11, 4, 29);
        echo("2 pairs", x, 2, 11, 4, 2);
        echo("one pair", x, 1, 10, 3, 1);
        C.due("the last pair", x.echo(0, 0, 58, 1, 2), 1);
        C.due("behind the last pair", x.echo(0, 0, 59, 1, 2), Checks.PLACE);
        C.due("29 pairs from ITEM 2 on", x.echo(0, 0, 2, 29, 2), 29);
        C.due("30 pairs from ITEM 1 on", x.echo(0, 0, 1, 30, 2), Checks.PLACE);
        C.bad("31 pairs", x.echo(0, 0, 0, 31, 2));
        C.bad("no pair", x.echo(0, 0, 0, 0, 2));
    }

    // ITEMS that are so great that a move would wrap around are no DOTS.
    private static void farItems() {
        int[] far = {Integer.MIN_VALUE, Integer.MIN_VALUE + 1, Integer.MIN_VALUE + 20, -21, -1, 36, 256, 65536,
            Integer.MAX_VALUE - 15, Integer.MAX_VALUE};
        LonelyDots x = new LonelyDots();
        Checks.order(x, 0, Checks.lineBack(16));
        for (int a : far) {
            Checks.write(x, 0, a, 10, 10, a);
            C.due("far row and far column: " + a, x.echo(0, 0, 0, 2, 2), 0);
            Checks.write(x, 0, a, a);
            C.due("both far: " + a, x.echo(0, 0, 0, 1, 2), 0);
        }
    }
}
