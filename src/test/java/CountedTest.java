/** Promises 26 to 29: lonely, shortest, count, status; and the constants. */
public final class CountedTest {
    private static final Checks C = new Checks();

    public static void main(String[] args) {
        constants();
        lonely();
        shortest();
        count();
        statusOfEachCall();
        statusOfRefusals();
        statusOfFindings();
        C.end("CountedTest");
    }

    private static void constants() {
        C.due("NONE", LonelyDots.NONE, -1000000);
        C.due("BAD", LonelyDots.BAD, -1000001);
        C.due("FULL", LonelyDots.FULL, -1000003);
    }

    private static void lonely() {
        LonelyDots x = new LonelyDots();
        int[] all = {1, 2, 4, 12, 40, 116, 200};
        int[] upToTurns = {1, 1, 1, 2, 6, 17, 30};
        x.kind(0);
        for (int round = 0; round < 2; round++) {
            for (int n = 7; n >= 1; n--) {
                C.due("lonely up to turns " + n, x.lonely(n, 1), upToTurns[n - 1]);
                C.due("lonely " + n, x.lonely(n, 0), all[n - 1]);
            }
        }
        C.due("lonely leaves status", x.status(), 1);
        for (int bad : new int[] {-1, 0, 8, Integer.MIN_VALUE, Integer.MAX_VALUE}) {
            C.bad("lonely n " + bad, x.lonely(bad, 0));
        }
        C.bad("lonely what -1", x.lonely(3, -1));
        C.bad("lonely what 2", x.lonely(3, 2));
    }

    private static void shortest() {
        LonelyDots x = new LonelyDots();
        int[] least = {0, 1, 3, 6, 11, 17};
        x.kind(0);
        for (int round = 0; round < 2; round++) {
            for (int n = 6; n >= 1; n--) {
                C.due("shortest " + n, x.shortest(n), least[n - 1]);
            }
        }
        C.due("shortest leaves status", x.status(), 1);
        for (int bad : new int[] {-1, 0, 7, Integer.MIN_VALUE, Integer.MAX_VALUE}) {
            C.bad("shortest " + bad, x.shortest(bad));
        }
    }

    private static void count() {
        LonelyDots x = new LonelyDots();
        counts(x, 0, 0, 0, 0, 0, 0);
        x.sheet(3, 0, 0);
        Checks.order(x, 0, 0, 1, 2);
        counts(x, 2, 1, 1, 0, 0, 0);
        Checks.order(x, 1, 0, 2, 1);
        counts(x, 2, 2, 2, 1, 0, 0);
        Checks.marks(x, 2, 0, 1, 2);
        counts(x, 2, 3, 2, 1, 1, 0);
        Checks.marks(x, 3, 0, 1, 7);
        counts(x, 2, 4, 2, 1, 2, 1);
        Checks.marks(x, 9, 4);
        counts(x, 2, 5, 2, 1, 3, 2);
        Checks.marks(x, 0, 4);
        counts(x, 2, 5, 1, 1, 4, 3);
        x.clear(1);
        x.drop(3);
        counts(x, 1, 4, 0, 0, 4, 3);
        x.kind(1);
        C.bad("count -1", x.count(-1));
        C.bad("count 6", x.count(6));
        x.count(0);
        C.due("count leaves status", x.status(), 1);
    }

    private static void counts(LonelyDots x, int... want) {
        for (int what = 0; what < want.length; what++) {
            C.due("count " + what, x.count(what), want[what]);
        }
    }

    /** An object whose status is 1, with an ORDER on place 0 and a SHEET 0 of 30 ITEMS. */
    private static LonelyDots found() {
        LonelyDots x = new LonelyDots();
        x.sheet(0, 0, 30);
        x.powers(0, 5, 2, 0);
        x.kind(9);
        return x;
    }

    private static void settles(String call, LonelyDots x, int answer) {
        C.due("status behind " + call + " that answered " + answer, x.status(), 0);
    }

    private static void statusOfEachCall() {
        LonelyDots x;
        x = found(); settles("sheet", x, x.sheet(1, 0, 1));
        x = found(); settles("set", x, x.set(0, 0, 1));
        x = found(); settles("copy", x, x.copy(0, 0, 0, 1, 1));
        x = found(); settles("drop", x, x.drop(0));
        x = found(); settles("order", x, x.order(1, 0, 0, 1));
        x = found(); settles("marks", x, x.marks(1, 0, 0, 1));
        x = found(); settles("powers", x, x.powers(1, 3, 2, 0));
        x = found(); settles("sums", x, x.sums(1, 5, 2, 2));
        x = found(); settles("take", x, x.take(1, 0, 3));
        x = found(); settles("put", x, x.put(1, 0, 3));
        x = found(); settles("turn", x, x.turn(1, 0, 3));
        x = found(); settles("nth", x, x.nth(1, 2, 0));
        x = found(); settles("kind", x, x.kind(0));
        x = found(); settles("as", x, x.as(0, 0));
        x = found(); settles("ask", x, x.ask(0, 0));
        x = found(); settles("at", x, x.at(0, 0));
        x = found(); settles("alike", x, x.alike(0, 0));
        x = found(); settles("meeting", x, x.meeting(0, 0, 0, 0));
        x = found(); settles("most", x, x.most(0));
        x = found(); settles("together", x, x.together(0, 0));
        x = found(); settles("echo", x, x.echo(0, 0, 0, 1, 0));
    }

    private static void stays(String call, LonelyDots x, int answer) {
        C.due("status behind " + call + " that answered " + answer, x.status(), 1);
    }

    private static void statusOfRefusals() {
        LonelyDots x = found();
        stays("sheet", x, x.sheet(8, 0, 1));
        stays("set", x, x.set(8, 0, 1));
        stays("copy", x, x.copy(0, 0, 8, 1, 1));
        stays("drop", x, x.drop(8));
        stays("order", x, x.order(1, 0, 0, 2));
        stays("marks", x, x.marks(1, 0, 0, 2));
        stays("powers", x, x.powers(1, 4, 2, 0));
        stays("sums", x, x.sums(1, 3, 2, 2));
        stays("take", x, x.take(1, 0, 4));
        stays("put", x, x.put(1, 0, 4));
        stays("turn", x, x.turn(1, 0, 8));
        stays("nth", x, x.nth(1, 8, 0));
        stays("clear", x, x.clear(0));
        stays("clear", x, x.clear(10));
        stays("kind", x, x.kind(10));
        stays("is", x, x.is(0, 0));
        stays("is", x, x.is(0, 6));
        stays("as", x, x.as(0, 6));
        stays("ask", x, x.ask(0, 2));
        stays("trace", x, x.trace(0));
        stays("alike", x, x.alike(0, 4));
        stays("meeting", x, x.meeting(0, 0, 0, 21));
        stays("most", x, x.most(10));
        stays("together", x, x.together(0, 10));
        stays("echo", x, x.echo(0, 0, 0, 1, 3));
        stays("status", x, x.status());
    }

    /** Checks the answer of a FINDING and its number; each call is made on an object whose status is 0. */
    private static void finds(int finding, LonelyDots x, int answer) {
        C.due("finding " + finding, answer, -1000010 - finding);
        C.due("status of finding " + finding, x.status(), finding);
        x.kind(0);
        C.due("status of no finding", x.status(), 0);
    }

    private static void statusOfFindings() {
        LonelyDots x = found();
        Checks.marks(x, 1, 0, 1);
        x.kind(0);
        finds(4, x, x.sheet(1, 0, -1));
        finds(1, x, x.set(1, 0, 0));
        finds(2, x, x.set(0, 30, 0));
        finds(1, x, x.copy(0, 0, 1, 0, 0));
        finds(5, x, x.copy(0, 0, 7, 0, 0));
        finds(2, x, x.copy(0, 0, 0, 0, 31));
        finds(1, x, x.drop(1));
        finds(1, x, x.order(2, 1, 0, 1));
        finds(2, x, x.order(2, 0, 30, 1));
        finds(1, x, x.marks(2, 1, 0, 1));
        finds(2, x, x.marks(2, 0, 30, 1));
        finds(1, x, x.take(2, 9, 0));
        finds(3, x, x.take(2, 1, 0));
        finds(1, x, x.put(2, 9, 0));
        finds(3, x, x.put(2, 1, 0));
        finds(1, x, x.turn(2, 9, 0));
        finds(3, x, x.turn(2, 1, 0));
        finds(1, x, x.kind(9));
        finds(1, x, x.as(9, 0));
        finds(3, x, x.as(1, 1));
        finds(1, x, x.ask(9, 0));
        finds(1, x, x.at(9, 0));
        finds(1, x, x.alike(9, 0));
        finds(1, x, x.meeting(9, 0, 0, 0));
        finds(3, x, x.meeting(1, 0, 0, 0));
        finds(1, x, x.meeting(0, 9, 0, 0));
        finds(3, x, x.meeting(0, 1, 0, 0));
        finds(1, x, x.most(9));
        finds(3, x, x.most(1));
        finds(1, x, x.together(9, 0));
        finds(3, x, x.together(1, 0));
        finds(1, x, x.together(0, 9));
        finds(3, x, x.together(0, 1));
        finds(1, x, x.echo(9, 0, 0, 1, 0));
        finds(3, x, x.echo(1, 0, 0, 1, 0));
        finds(1, x, x.echo(0, 1, 0, 1, 0));
        finds(2, x, x.echo(0, 0, 29, 1, 0));
    }
}
