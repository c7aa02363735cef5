/** Promises 6 to 14: order, marks, powers, sums, take, put, turn, nth, clear. */
public final class ThingsTest {
    private static final Checks C = new Checks();

    public static void main(String[] args) {
        order();
        orderRefused();
        marks();
        marksRefused();
        thingsNeverChange();
        powers();
        powersRefused();
        sums();
        sumsRefused();
        take();
        put();
        cornersRefused();
        turn();
        turnRefused();
        nth();
        clear();
        C.end("ThingsTest");
    }

    private static void order() {
        LonelyDots x = new LonelyDots();
        C.due("one row", Checks.order(x, 0, 0), 2);
        C.due("one row's kind", x.kind(0), 2);
        C.due("equal ways", Checks.order(x, 1, 0, 1, 2), 1);
        C.due("equal ways back", Checks.order(x, 1, 2, 1, 0), 1);
        C.due("unlike ways", Checks.order(x, 2, 0, 2, 1), 2);
        C.due("equal ways, two rows down", Checks.order(x, 1, 2, 0, 3, 1), 1);
        C.due("ways on and back are unlike", Checks.order(x, 2, 1, 0, 2, 3), 2);
        x.sheet(0, 1, 60);
        for (int k = 0; k < 16; k++) {
            x.set(0, 44 + k, 15 - k);
        }
        C.due("16 rows at the end of a sheet", x.order(9, 0, 44, 16), 1);
        C.numbers("16 rows", x, 9, 15, 14, 13, 12, 11, 10, 9, 8, 7, 6, 5, 4, 3, 2, 1, 0);
    }

    private static void orderRefused() {
        LonelyDots x = new LonelyDots();
        C.bad("order place -1", x.order(-1, 0, 0, 1));
        C.bad("order place 10", x.order(10, 0, 0, 1));
        C.bad("order sheet -1", x.order(0, -1, 0, 1));
        C.bad("order sheet 8", x.order(0, 8, 0, 1));
        C.bad("order n 0", x.order(0, 0, 0, 0));
        C.bad("order n 17", x.order(0, 0, 0, 17));
        C.bad("order n below 0", x.order(0, 0, 0, -1));
        C.due("order NULL ahead of PLACE", x.order(0, 0, -1, 1), Checks.NULL);
        Checks.write(x, 0, 1, 0, 2, 2, 4, -1);
        C.due("order PLACE below", x.order(0, 0, -1, 2), Checks.PLACE);
        C.due("order PLACE beyond", x.order(0, 0, 5, 2), Checks.PLACE);
        C.due("order PLACE ahead of BAD items", x.order(0, 0, 2, 5), Checks.PLACE);
        C.due("order PLACE wraps", x.order(0, 0, Integer.MAX_VALUE, 2), Checks.PLACE);
        C.due("status of PLACE", x.status(), 2);
        C.bad("order twice the same", x.order(0, 0, 0, 4));
        C.bad("order too great", x.order(0, 0, 1, 2));
        C.bad("order below 0", x.order(0, 0, 5, 1));
        C.due("BAD items leave status", x.status(), 2);
        C.due("nothing was put", x.clear(0), 0);
        C.due("order", x.order(0, 0, 0, 3), 2);
        C.due("status of an order", x.status(), 0);
        C.bad("order refused", x.order(0, 0, 0, 4));
        C.numbers("what was there stays", x, 0, 1, 0, 2);
        Checks.write(x, 0, 32, 33);
        C.bad("order of great items", x.order(0, 0, 0, 2));
        Checks.write(x, 0, Integer.MAX_VALUE, Integer.MIN_VALUE);
        C.bad("order of greatest", x.order(0, 0, 0, 1));
        C.bad("order of least", x.order(0, 0, 1, 1));
    }

    private static void marks() {
        LonelyDots x = new LonelyDots();
        C.due("one mark", Checks.marks(x, 0, 200), 5);
        C.due("mark 0", Checks.marks(x, 0, 0), 5);
        C.due("perfect 2", Checks.marks(x, 0, 0, 1), 5);
        C.due("ruler 2", Checks.marks(x, 0, 0, 2), 4);
        C.due("perfect 3", Checks.marks(x, 0, 0, 2, 3), 5);
        C.due("perfect behind 0", Checks.marks(x, 0, 9, 10, 13, 15), 5);
        C.due("ruler", Checks.marks(x, 0, 0, 1, 4, 9, 11), 4);
        C.due("ruler behind 0", Checks.marks(x, 0, 1, 2, 4), 5);
        C.due("marks", Checks.marks(x, 0, 0, 1, 4, 5), 3);
        C.due("marks in the middle", Checks.marks(x, 0, 0, 10, 20), 3);
        C.due("twelve", Checks.marks(x, 0, 0, 2, 6, 24, 29, 40, 43, 55, 68, 75, 76, 85), 4);
        C.numbers("twelve", x, 0, 0, 2, 6, 24, 29, 40, 43, 55, 68, 75, 76, 85);
        C.due("as many distances as the greatest, not unlike", Checks.marks(x, 0, 0, 1, 2, 6), 3);
    }

    private static void marksRefused() {
        LonelyDots x = new LonelyDots();
        C.bad("marks place -1", x.marks(-1, 0, 0, 1));
        C.bad("marks place 10", x.marks(10, 0, 0, 1));
        C.bad("marks sheet -1", x.marks(0, -1, 0, 1));
        C.bad("marks sheet 8", x.marks(0, 8, 0, 1));
        C.bad("marks n 0", x.marks(0, 0, 0, 0));
        C.bad("marks n 13", x.marks(0, 0, 0, 13));
        C.due("marks NULL ahead of PLACE", x.marks(0, 0, 9, 1), Checks.NULL);
        Checks.write(x, 0, 5, 5, 4, 201, -1, 3, 200);
        C.due("marks PLACE below", x.marks(0, 0, -1, 1), Checks.PLACE);
        C.due("marks PLACE beyond", x.marks(0, 0, 6, 2), Checks.PLACE);
        C.due("marks PLACE ahead of BAD items", x.marks(0, 0, 0, 8), Checks.PLACE);
        C.due("marks PLACE wraps", x.marks(0, 0, Integer.MAX_VALUE, 1), Checks.PLACE);
        C.bad("marks twice the same", x.marks(0, 0, 0, 2));
        C.bad("marks falling", x.marks(0, 0, 1, 2));
        C.bad("marks 201", x.marks(0, 0, 2, 2));
        C.bad("marks below 0", x.marks(0, 0, 4, 2));
        C.due("BAD items leave status", x.status(), 2);
        C.due("nothing was put", x.clear(0), 0);
        C.due("marks to 200", x.marks(0, 0, 5, 2), 4);
        C.due("status of marks", x.status(), 0);
    }

    private static void thingsNeverChange() {
        LonelyDots x = new LonelyDots();
        Checks.write(x, 0, 0, 2, 1);
        x.order(0, 0, 0, 3);
        x.turn(1, 0, 0);
        x.set(0, 0, 2);
        x.set(0, 1, 0);
        C.numbers("the sheet was written to", x, 0, 0, 2, 1);
        x.take(0, 0, 0);
        C.numbers("the other place was used", x, 1, 0, 2, 1);
        x.drop(0);
        C.numbers("the sheet is missing", x, 1, 0, 2, 1);
    }

    private static void powers() {
        LonelyDots x = new LonelyDots();
        C.due("powers 3", x.powers(0, 3, 2, 1), 2);
        C.numbers("powers 3", x, 0, 0, 1);
        C.due("powers 5", x.powers(0, 5, 3, 0), 2);
        C.numbers("powers 5", x, 0, 2, 3, 1, 0);
        C.due("powers 7", x.powers(0, 7, 5, 0), 2);
        C.numbers("powers 7", x, 0, 4, 3, 5, 1, 2, 0);
        C.due("powers 7 and 6", x.powers(0, 7, 5, 6), 2);
        C.numbers("powers 7 and 6", x, 0, 4, 3, 5, 1, 2, 0);
        C.due("powers 7 and 15", x.powers(0, 7, 5, 15), 2);
        C.numbers("powers 7 and 15", x, 0, 1, 2, 0, 4, 3, 5);
        C.due("powers 17", x.powers(9, 17, 14, 0), 2);
        C.numbers("powers 17", x, 9, 13, 8, 6, 12, 11, 14, 5, 15, 2, 7, 9, 3, 4, 1, 10, 0);
    }

    private static void powersRefused() {
        LonelyDots x = new LonelyDots();
        C.bad("powers place -1", x.powers(-1, 5, 2, 0));
        C.bad("powers place 10", x.powers(10, 5, 2, 0));
        int[] notTold = {Integer.MIN_VALUE, -5, -1, 0, 1, 2, 4, 6, 8, 9, 10, 12, 14, 15, 16, 18, 19, Integer.MAX_VALUE};
        for (int p : notTold) {
            for (int g = 1; g < 19; g++) {
                C.bad("powers p " + p + " g " + g, x.powers(0, p, g, 0));
                C.bad("sums p " + p + " g " + g, x.sums(0, p, g, g));
            }
        }
        for (int g : new int[] {Integer.MIN_VALUE, -2, 0, 1, 2, 4, 6, 7, 8, 10, 12, Integer.MAX_VALUE}) {
            C.bad("powers 7 g " + g, x.powers(0, 7, g, 0));
        }
        C.bad("powers e -1", x.powers(0, 5, 2, -1));
        C.bad("powers e 16", x.powers(0, 5, 2, 16));
        C.due("nothing was put", x.clear(0), 0);
    }

    private static void sums() {
        LonelyDots x = new LonelyDots();
        C.due("sums 5", x.sums(0, 5, 2, 2), 2);
        C.numbers("sums 5", x, 0, 1, 0, 2);
        C.due("sums 5 of two", x.sums(0, 5, 3, 2), 2);
        C.numbers("sums 5 of two", x, 0, 2, 0, 1);
        C.due("sums 7", x.sums(0, 7, 3, 3), 2);
        C.numbers("sums 7", x, 0, 4, 2, 1, 3, 0);
        C.due("sums 7 of two", x.sums(0, 7, 5, 3), 2);
        C.numbers("sums 7 of two", x, 0, 0, 3, 1, 2, 4);
        C.due("sums 17", x.sums(0, 17, 3, 3), 2);
        C.due("sums 17 size", x.as(0, 2), 15);
    }

    private static void sumsRefused() {
        LonelyDots x = new LonelyDots();
        C.bad("sums place -1", x.sums(-1, 5, 2, 2));
        C.bad("sums place 10", x.sums(10, 5, 2, 2));
        C.bad("sums 3", x.sums(0, 3, 2, 2));
        for (int g : new int[] {-2, 0, 1, 2, 4, 6, 7, 8, 10}) {
            C.bad("sums 7 g " + g, x.sums(0, 7, g, 3));
            C.bad("sums 7 h " + g, x.sums(0, 7, 3, g));
        }
        C.due("nothing was put", x.clear(0), 0);
    }

    private static void take() {
        LonelyDots x = new LonelyDots();
        Checks.order(x, 0, 0, 2, 1, 3);
        C.due("take 0", x.take(1, 0, 0), 2);
        C.numbers("take 0", x, 1, 1, 0, 2);
        C.due("take 3", x.take(1, 0, 3), 2);
        C.numbers("take 3", x, 1, 0, 2, 1);
        C.numbers("that of the other place stays", x, 0, 0, 2, 1, 3);
        C.due("take 1: no dot", x.take(1, 0, 1), Checks.NONE);
        C.due("take 2: no dot", x.take(1, 0, 2), Checks.NONE);
        C.numbers("NONE changes nothing", x, 1, 0, 2, 1);
        Checks.order(x, 0, 3, 1, 2, 0);
        C.due("take 1", x.take(1, 0, 1), 2);
        C.numbers("take 1", x, 1, 1, 2, 0);
        C.due("take 2", x.take(1, 0, 2), 2);
        C.numbers("take 2", x, 1, 2, 0, 1);
        Checks.order(x, 0, 0, 1, 2, 3, 4);
        C.due("take in place, an order is left", x.take(0, 0, 0), 1);
        C.numbers("take in place", x, 0, 0, 1, 2, 3);
        x.take(0, 0, 0);
        C.due("take in place, a lonely one is left", x.take(0, 0, 0), 2);
        C.due("take to one row", x.take(0, 0, 3), 2);
        C.numbers("one row", x, 0, 0);
        x.kind(9);
        C.due("take of one row", x.take(0, 0, 0), Checks.NONE);
        C.due("status of NONE", x.status(), 0);
    }

    private static void put() {
        LonelyDots x = new LonelyDots();
        Checks.order(x, 0, 1, 0, 2);
        C.due("put 0", x.put(1, 0, 0), 1);
        C.numbers("put 0", x, 1, 0, 2, 1, 3);
        C.due("put 1", x.put(1, 0, 1), 2);
        C.numbers("put 1", x, 1, 3, 1, 0, 2);
        C.due("put 2", x.put(1, 0, 2), 2);
        C.numbers("put 2", x, 1, 2, 1, 3, 0);
        C.due("put 3", x.put(1, 0, 3), 2);
        C.numbers("put 3", x, 1, 1, 0, 2, 3);
        Checks.order(x, 2, 0);
        for (int n = 1; n < 16; n++) {
            C.due("put in place", x.put(2, 2, 3), n < 2 ? 2 : 1);
        }
        x.kind(9);
        C.due("FULL", x.put(3, 2, 3), Checks.FULL);
        C.due("FULL leaves status", x.status(), 1);
        C.due("FULL puts nothing", x.clear(3), 0);
        C.bad("BAD ahead of FULL", x.put(3, 2, 4));
    }

    private static void cornersRefused() {
        LonelyDots x = new LonelyDots();
        Checks.marks(x, 5, 0, 1);
        for (int bad : new int[] {-1, 10}) {
            C.bad("take to", x.take(bad, 0, 0));
            C.bad("take place", x.take(0, bad, 0));
            C.bad("put to", x.put(bad, 0, 0));
            C.bad("put place", x.put(0, bad, 0));
        }
        for (int corner : new int[] {-1, 4}) {
            C.bad("take corner", x.take(1, 0, corner));
            C.bad("put corner", x.put(1, 0, corner));
        }
        C.due("take NULL", x.take(5, 0, 0), Checks.NULL);
        C.due("put NULL", x.put(5, 0, 0), Checks.NULL);
        C.due("take KIND", x.take(0, 5, 0), Checks.KIND);
        C.due("status of KIND", x.status(), 3);
        C.due("put KIND", x.put(0, 5, 0), Checks.KIND);
        C.due("findings change nothing", x.kind(5), 5);
        C.due("findings put nothing", x.clear(0), 0);
    }

    private static void turn() {
        LonelyDots x = new LonelyDots();
        Checks.order(x, 0, 0, 2, 3, 1);
        int[][] want = {
            {0, 2, 3, 1}, {1, 3, 2, 0}, {3, 1, 0, 2}, {2, 0, 1, 3},
            {0, 3, 1, 2}, {3, 0, 2, 1}, {2, 1, 3, 0}, {1, 2, 0, 3}};
        for (int turn = 0; turn < 8; turn++) {
            C.due("turn " + turn, x.turn(1, 0, turn), 2);
            C.numbers("turn " + turn, x, 1, want[turn]);
        }
        C.numbers("what is turned stays", x, 0, 0, 2, 3, 1);
        Checks.order(x, 2, 0, 1, 3, 4, 2);
        C.due("turn in place", x.turn(2, 2, 5), x.kind(2));
        C.numbers("turn in place", x, 2, 4, 3, 0, 2, 1);
    }

    private static void turnRefused() {
        LonelyDots x = new LonelyDots();
        Checks.marks(x, 5, 0, 1);
        C.bad("turn to -1", x.turn(-1, 5, 0));
        C.bad("turn to 10", x.turn(10, 5, 0));
        C.bad("turn place -1", x.turn(0, -1, 0));
        C.bad("turn place 10", x.turn(0, 10, 0));
        C.bad("turn -1", x.turn(0, 5, -1));
        C.bad("turn 8", x.turn(0, 5, 8));
        C.due("turn NULL", x.turn(0, 1, 0), Checks.NULL);
        C.due("turn KIND", x.turn(0, 5, 0), Checks.KIND);
        C.due("turn put nothing", x.clear(0), 0);
    }

    private static void nth() {
        LonelyDots x = new LonelyDots();
        int[][] three = {{0, 2, 1}, {1, 0, 2}, {1, 2, 0}, {2, 0, 1}};
        for (int i = 0; i < three.length; i++) {
            C.due("nth 3", x.nth(0, 3, i), 2);
            C.numbers("nth 3 " + i, x, 0, three[i]);
        }
        x.kind(9);
        C.due("no more of 3", x.nth(0, 3, 4), Checks.NONE);
        C.due("status of NONE", x.status(), 0);
        C.numbers("NONE changes nothing", x, 0, 2, 0, 1);
        C.due("below 0", x.nth(1, 3, -1), Checks.NONE);
        C.due("least", x.nth(1, 3, Integer.MIN_VALUE), Checks.NONE);
        C.due("greatest", x.nth(1, 7, Integer.MAX_VALUE), Checks.NONE);
        C.bad("nth n 0", x.nth(0, 0, 0));
        C.bad("nth n 8", x.nth(0, 8, 0));
        C.bad("nth place -1", x.nth(-1, 3, 0));
        C.bad("nth place 10", x.nth(10, 3, 0));
        C.bad("BAD ahead of NONE", x.nth(10, 3, -1));
        C.due("nth 7", x.nth(0, 7, 0), 2);
        C.numbers("nth 7", x, 0, 0, 1, 5, 3, 6, 2, 4);
        C.due("nth 1", x.nth(0, 1, 0), 2);
        C.numbers("nth 1", x, 0, 0);
    }

    private static void clear() {
        LonelyDots x = new LonelyDots();
        C.bad("clear -1", x.clear(-1));
        C.bad("clear 10", x.clear(10));
        C.due("clear empty", x.clear(9), 0);
        Checks.order(x, 9, 0);
        x.kind(0);
        C.due("clear", x.clear(9), 1);
        C.due("clear leaves status", x.status(), 1);
        C.due("cleared", x.clear(9), 0);
        C.due("cleared: count", x.count(1), 0);
        C.due("cleared: kind", x.kind(9), Checks.NULL);
    }
}
