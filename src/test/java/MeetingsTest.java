/** Promises 22 to 25: meeting, most, together, echo. */
public final class MeetingsTest {
    private static final Checks C = new Checks();

    public static void main(String[] args) {
        meeting();
        findings();
        most();
        together();
        echo();
        echoTies();
        echoOfFarItems();
        echoRefused();
        C.end("MeetingsTest");
    }

    private static void meeting() {
        LonelyDots x = new LonelyDots();
        Checks.order(x, 0, 0, 2, 1, 3);
        Checks.order(x, 1, 1, 0);
        C.due("b lies on a", x.meeting(0, 1, 1, 1), 2);
        C.due("a lies on b", x.meeting(1, 0, -1, -1), 2);
        C.due("the other way", x.meeting(0, 1, -1, -1), 0);
        C.due("one dot", x.meeting(0, 1, 0, 2), 1);
        C.due("no dot", x.meeting(0, 1, 0, 1), 0);
        C.due("one dot above", x.meeting(0, 1, -1, 0), 1);
        C.due("one dot below", x.meeting(0, 1, 3, 2), 1);
        C.due("by columns back", x.meeting(0, 1, 0, -1), 1);
        C.due("itself", x.meeting(0, 0, 0, 0), 4);
        C.due("itself, moved", x.meeting(0, 0, 2, 1), 2);
        C.due("far", x.meeting(0, 1, 20, -20), 0);
        C.due("far, the other way", x.meeting(0, 1, -20, 20), 0);
        x.kind(9);
        C.due("far, status", x.meeting(0, 1, 20, 20) + x.status(), 0);
    }

    private static void findings() {
        LonelyDots x = new LonelyDots();
        Checks.order(x, 0, 0, 1);
        Checks.marks(x, 1, 0, 1);
        for (int bad : new int[] {-1, 10}) {
            C.bad("meeting a", x.meeting(bad, 0, 0, 0));
            C.bad("meeting b", x.meeting(0, bad, 0, 0));
            C.bad("most place", x.most(bad));
            C.bad("together a", x.together(bad, 0));
            C.bad("together b", x.together(0, bad));
        }
        for (int bad : new int[] {-21, 21, Integer.MIN_VALUE, Integer.MAX_VALUE}) {
            C.bad("meeting r", x.meeting(0, 0, bad, 0));
            C.bad("meeting s", x.meeting(0, 0, 0, bad));
            C.bad("BAD ahead of NULL", x.meeting(2, 2, 0, bad));
        }
        C.due("most NULL", x.most(2), Checks.NULL);
        C.due("most KIND", x.most(1), Checks.KIND);
        C.due("status of KIND", x.status(), 3);
        int[][] want = {{0, 0, 0}, {0, 1, Checks.KIND}, {0, 2, Checks.NULL}, {1, 0, Checks.KIND},
            {1, 2, Checks.KIND}, {2, 0, Checks.NULL}, {2, 1, Checks.NULL}};
        for (int[] row : want) {
            if (row[2] != 0) {
                C.due("meeting " + row[0] + " " + row[1], x.meeting(row[0], row[1], 0, 0), row[2]);
                C.due("status of meeting", x.status(), -1000010 - row[2]);
                C.due("together " + row[0] + " " + row[1], x.together(row[0], row[1]), row[2]);
            }
        }
        C.due("together", x.together(0, 0), 2);
        C.due("status of together", x.status(), 0);
    }

    private static void most() {
        LonelyDots x = new LonelyDots();
        Checks.order(x, 0, 0);
        C.due("most of one row", x.most(0), 0);
        Checks.order(x, 0, 1, 0);
        C.due("most of two rows", x.most(0), 1);
        Checks.order(x, 0, 3, 2, 1, 0);
        C.due("most of a line back", x.most(0), 3);
        Checks.order(x, 0, 0, 3, 1, 4, 2, 5);
        C.due("most, two rows down", x.most(0), 4);
        x.sheet(0, 0, 16);
        for (int k = 0; k < 16; k++) {
            x.set(0, k, 15 - k);
        }
        x.order(0, 0, 0, 16);
        C.due("most of 16 rows", x.most(0), 15);
        x.powers(0, 17, 3, 0);
        C.due("most of a lonely one", x.most(0), 1);
        C.due("status of most", x.status(), 0);
    }

    private static void together() {
        LonelyDots x = new LonelyDots();
        Checks.order(x, 0, 0);
        Checks.order(x, 1, 2, 0, 1, 3);
        C.due("one row and one", x.together(0, 0), 1);
        C.due("one row and four", x.together(0, 1), 1);
        C.due("four rows and one", x.together(1, 0), 1);
        C.due("itself, moved by nothing", x.together(1, 1), 4);
        Checks.order(x, 2, 0, 1);
        C.due("two rows and four", x.together(2, 1), 2);
        Checks.order(x, 3, 4, 2, 0, 1, 3);
        C.due("the whole of one", x.together(1, 3), 4);
        Checks.order(x, 3, 4, 2, 0, 3, 1);
        C.due("two that fit", x.together(1, 3), 2);
        Checks.order(x, 3, 2, 0, 1, 4, 3);
        C.due("four rows and five", x.together(1, 3), 3);
        C.due("five rows and four", x.together(3, 1), 3);
        Checks.order(x, 4, 0, 1, 2, 3, 4, 5, 6, 7, 8, 9, 10, 11, 12, 13, 14, 15);
        Checks.order(x, 5, 15, 14, 13, 12, 11, 10, 9, 8, 7, 6, 5, 4, 3, 2, 1, 0);
        C.due("lines on and back", x.together(4, 5), 1);
        C.due("16 rows", x.together(5, 5), 16);
    }

    private static void echo(LonelyDots x, String name, int i, int n, int r, int s, int fits) {
        C.due("echo " + name + " r", x.echo(0, 0, i, n, 0), r);
        C.due("echo " + name + " s", x.echo(0, 0, i, n, 1), s);
        C.due("echo " + name + " fits", x.echo(0, 0, i, n, 2), fits);
        C.due("echo " + name + " status", x.status(), 0);
    }

    private static void echo() {
        LonelyDots x = new LonelyDots();
        Checks.order(x, 0, 0, 2, 1, 3);
        Checks.write(x, 0, 99, 20, 20, 21, 22, 22, 21, 23, 23);
        echo(x, "whole", 1, 4, 20, 20, 4);
        echo(x, "without the first one", 3, 3, 20, 20, 3);
        Checks.write(x, 0, 0, 0, 1, 2, 2, 1, 3, 3, 9, 9);
        echo(x, "not moved, another one", 0, 5, 0, 0, 4);
        Checks.write(x, 0, 3, 8, 3, 8, 2, 6, 2, 6, 2, 6);
        echo(x, "one pair often", 0, 5, 0, 5, 5);
        Checks.write(x, 0, 24, 23, 24, 23);
        echo(x, "beyond every move", 0, 2, 0, 0, 0);
        Checks.write(x, 0, 23, 23);
        echo(x, "by the last move", 0, 1, 20, 20, 1);
    }

    private static void echoTies() {
        LonelyDots x = new LonelyDots();
        Checks.order(x, 0, 0, 1);
        Checks.write(x, 0, 5, 5);
        echo(x, "the least r", 0, 1, 4, 4, 1);
        Checks.order(x, 0, 1, 0);
        echo(x, "the least r, not s", 0, 1, 4, 5, 1);
        Checks.write(x, 0, 5, 9, 5, 6);
        echo(x, "then the least s", 0, 2, 4, 6, 1);
        Checks.order(x, 0, 0);
        Checks.write(x, 0, 0, 1, 0, 21, 20, 21, 21, 0);
        echo(x, "one column on", 0, 1, 0, 1, 1);
        echo(x, "beyond the last column", 2, 1, 0, 0, 0);
        echo(x, "beyond the last column of the last row", 4, 1, 0, 0, 0);
        echo(x, "beyond the last row", 6, 1, 0, 0, 0);
    }

    private static void echoOfFarItems() {
        LonelyDots x = new LonelyDots();
        x.powers(0, 17, 3, 0);
        Checks.write(x, 0, Integer.MIN_VALUE, Integer.MIN_VALUE, Integer.MAX_VALUE, Integer.MAX_VALUE,
                -1, -1, Integer.MIN_VALUE, 3, 3, Integer.MIN_VALUE, 3, Integer.MAX_VALUE, 0, -1);
        echo(x, "far items", 0, 7, 0, 0, 0);
        x.sheet(0, 0, 60);
        C.due("30 pairs", x.echo(0, 0, 0, 30, 2), 0);
        Checks.order(x, 0, 0);
        C.due("30 pairs of 0", x.echo(0, 0, 0, 30, 2), 30);
    }

    private static void echoRefused() {
        LonelyDots x = new LonelyDots();
        Checks.marks(x, 1, 0, 1);
        C.bad("echo place -1", x.echo(-1, 0, 0, 1, 0));
        C.bad("echo place 10", x.echo(10, 0, 0, 1, 0));
        C.bad("echo sheet -1", x.echo(0, -1, 0, 1, 0));
        C.bad("echo sheet 8", x.echo(0, 8, 0, 1, 0));
        C.bad("echo n 0", x.echo(0, 0, 0, 0, 0));
        C.bad("echo n 31", x.echo(0, 0, 0, 31, 0));
        C.bad("echo n greatest", x.echo(0, 0, 0, Integer.MAX_VALUE, 0));
        C.bad("echo what -1", x.echo(0, 0, 0, 1, -1));
        C.bad("echo what 3", x.echo(0, 0, 0, 1, 3));
        C.due("echo NULL of the place", x.echo(0, 0, -1, 1, 0), Checks.NULL);
        C.due("echo KIND ahead of NULL of the sheet", x.echo(1, 0, -1, 1, 0), Checks.KIND);
        Checks.order(x, 0, 0);
        C.due("echo NULL of the sheet", x.echo(0, 0, -1, 1, 0), Checks.NULL);
        C.due("status of NULL", x.status(), 1);
        x.sheet(0, 2, 7);
        C.due("echo PLACE below", x.echo(0, 0, -1, 1, 0), Checks.PLACE);
        C.due("echo PLACE half a pair", x.echo(0, 0, 6, 1, 0), Checks.PLACE);
        C.due("echo PLACE pairs", x.echo(0, 0, 0, 4, 0), Checks.PLACE);
        C.due("echo PLACE greatest", x.echo(0, 0, Integer.MAX_VALUE, 1, 0), Checks.PLACE);
        C.due("status of PLACE", x.status(), 2);
        C.due("echo at the end", x.echo(0, 0, 5, 1, 2), 1);
        C.due("echo KIND ahead of PLACE", x.echo(1, 0, 9, 1, 0), Checks.KIND);
        C.due("echo NULL ahead of PLACE", x.echo(2, 0, 9, 1, 0), Checks.NULL);
    }
}
