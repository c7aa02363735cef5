import java.util.List;

/** The boundary sentences of promises 26 to 29: lonely, shortest, count, status. */
public final class StatusTest {
    private static final Checks C = new Checks();
    private static final Edges E = new Edges(C);

    public static void main(String[] args) {
        lonelyOfTheFewestAndMostRows();
        shortestOfTheFewestAndMostMarks();
        countsFromNoneToAll();
        countsOfKinds();
        countsAfterRefusals();
        statusWhenThereWasNone();
        callsThatAreNotMeant();
        badAndFullAreNotMeant();
        noneHasNoFinding();
        latestCallAlone();
        statusOfStatus();
        C.end("StatusTest");
    }

    // "How many LONELY ORDERS of n (1 to 7) there are (0), how many up to TURNS (1). BAD."
    private static void lonelyOfTheFewestAndMostRows() {
        int[][] want = {{1, 1}, {2, 1}, {4, 1}, {12, 2}, {40, 6}, {116, 17}, {200, 30}};
        for (int n = 1; n <= 7; n++) {
            int rows = n;
            E.toldAside("LONELY ORDERS of " + n, want[n - 1][0], x -> x.lonely(rows, 0));
            E.toldAside("LONELY ORDERS of " + n + ", up to TURNS", want[n - 1][1], x -> x.lonely(rows, 1));
        }
        E.bad("of 0 rows", x -> x.lonely(0, 0));
        E.bad("of 8 rows", x -> x.lonely(8, 1));
        E.bad("what -1", x -> x.lonely(1, -1));
        E.bad("what 2", x -> x.lonely(7, 2));
    }

    // "The least greatest mark of a RULER of n marks (1 to 6). BAD."
    private static void shortestOfTheFewestAndMostMarks() {
        int[] want = {0, 1, 3, 6, 11, 17};
        for (int n = 1; n <= 6; n++) {
            int marks = n;
            E.toldAside("shortest of " + n, want[n - 1], x -> x.shortest(marks));
        }
        E.bad("of no mark", x -> x.shortest(0));
        E.bad("of 7 marks", x -> x.shortest(7));
        LonelyDots x = new LonelyDots();
        C.due("11 is enough for five", Checks.marks(x, 0, 0, 1, 4, 9, 11), 4);
        C.due("17 is enough for six", Checks.marks(x, 0, 0, 1, 4, 10, 12, 17), 4);
        for (int n = 1; n <= 6; n++) {
            C.due("each asked alone", new LonelyDots().shortest(n), want[n - 1]);
        }
    }

    private static void counts(String name, LonelyDots x, int... want) {
        for (int what = 0; what < 6; what++) {
            C.due(name + ": count " + what, x.count(what), want[what]);
        }
    }

    private static void countsFromNoneToAll() {
        LonelyDots x = new LonelyDots();
        counts("none", x, 0, 0, 0, 0, 0, 0);
        for (int sheet = 0; sheet < 8; sheet++) {
            x.sheet(sheet, 0, 0);
            counts("SHEETS of no ITEMS", x, sheet + 1, 0, 0, 0, 0, 0);
        }
        for (int place = 0; place < 10; place++) {
            x.nth(place, 1, 0);
            counts("LONELY ones", x, 8, place + 1, place + 1, place + 1, 0, 0);
        }
        x.sheet(7, 0, 60);
        for (int place = 0; place < 10; place++) {
            x.marks(place, 7, 0, 1);
            counts("PERFECT ones in their places", x, 8, 10, 9 - place, 9 - place, place + 1, place + 1);
        }
        for (int place = 9; place >= 0; place--) {
            x.clear(place);
            counts("cleared", x, 8, place, 0, 0, place, place);
        }
        for (int sheet = 0; sheet < 8; sheet++) {
            x.drop(sheet);
            counts("dropped", x, 7 - sheet, 0, 0, 0, 0, 0);
        }
    }

    // "2 ORDERS (LONELY ones, too), 3 LONELY ones, 4 MARKS (RULERS, PERFECT ones, too), 5 RULERS (PERFECT ones, too)."
    private static void countsOfKinds() {
        int[][] want = {{1, 0, 0, 0}, {1, 1, 0, 0}, {0, 0, 1, 0}, {0, 0, 1, 1}, {0, 0, 1, 1}};
        for (int kind = 1; kind <= 5; kind++) {
            LonelyDots x = new LonelyDots();
            if (kind <= 2) {
                Checks.order(x, 3, kind == 1 ? new int[] {0, 1, 2} : new int[] {0, 2, 1});
            } else {
                Checks.marks(x, 3, 0, 1, kind == 3 ? 2 : kind == 4 ? 4 : 3);
            }
            int[] row = want[kind - 1];
            C.due("KIND", x.kind(3), kind);
            counts("KIND " + kind, x, 1, 1, row[0], row[1], row[2], row[3]);
        }
        counts("of all KINDS", Scene.made(0), 5, 8, 4, 3, 4, 3);
        E.toldAside("SHEETS", 5, x -> x.count(0));
        E.bad("count -1", x -> x.count(-1));
        E.bad("count 6", x -> x.count(6));
    }

    private static void countsAfterRefusals() {
        LonelyDots x = Scene.made(0);
        x.sheet(4, 0, 61);
        x.sheet(4, 0, -1);
        x.drop(8);
        x.clear(10);
        x.order(0, 1, 0, 2);
        x.marks(0, 1, 0, 2);
        x.take(0, Scene.ONE_ROW, 0);
        x.put(0, Scene.SIXTEEN_ROWS, 0);
        x.nth(0, 1, 1);
        counts("nothing came", x, 5, 8, 4, 3, 4, 3);
    }

    // "0: it had none, or there was none."
    private static void statusWhenThereWasNone() {
        C.due("a new object", new LonelyDots().status(), 0);
        LonelyDots x = new LonelyDots();
        x.count(0);
        x.lonely(3, 0);
        x.shortest(3);
        x.trace(0);
        x.clear(0);
        x.is(0, 0);
        C.due("calls that are not meant", x.status(), 0);
        x.kind(10);
        x.sheet(8, 0, 0);
        x.count(6);
        C.due("BAD calls", x.status(), 0);
        x.sheet(0, 0, 0);
        C.due("a call without a FINDING", x.status(), 0);
    }

    // "Of the latest call with a SHEET or a place (but clear(), is())".
    private static void callsThatAreNotMeant() {
        List<Scene.Call> aside = List.of(
                x -> x.is(0, 0), x -> x.is(1, 1), x -> x.is(1, 5), x -> x.is(10, 0), x -> x.is(0, 6),
                x -> x.trace(0), x -> x.trace(-1), x -> x.lonely(7, 0), x -> x.lonely(0, 0), x -> x.shortest(6),
                x -> x.shortest(0), x -> x.count(0), x -> x.count(6), x -> x.clear(0), x -> x.clear(10), x -> x.status());
        for (Scene.Call call : aside) {
            for (int status = 0; status <= 5; status++) {
                LonelyDots x = Scene.made(status);
                call.on(x);
                C.due("status() stays", x.status(), status);
            }
        }
        for (int status = 0; status <= 5; status++) {
            LonelyDots x = Scene.made(status);
            C.due("clear() of a THING", x.clear(1), 1);
            C.due("status() stays", x.status(), status);
        }
    }

    // "that was not BAD, FULL".
    private static void badAndFullAreNotMeant() {
        E.bad("BAD at once", x -> x.kind(-1));
        E.bad("BAD at last, order", x -> x.order(0, 1, 0, 2));
        E.bad("BAD at last, marks", x -> x.marks(0, 1, 0, 2));
        E.bad("BAD at last, at", x -> x.at(1, 3));
        E.refused("FULL", Checks.FULL, x -> x.put(1, Scene.SIXTEEN_ROWS, 0));
    }

    // NONE is no FINDING: "0: it had none".
    private static void noneHasNoFinding() {
        E.told("take", Checks.NONE, x -> x.take(0, 1, 1));
        E.told("nth", Checks.NONE, x -> x.nth(0, 7, 200));
        E.told("alike", Checks.NONE, x -> x.alike(Scene.LONELY, 0));
        E.toldAside("trace", Checks.NONE, x -> x.trace(5));
    }

    // "the number of its FINDING": of the latest call, not of an earlier one.
    private static void latestCallAlone() {
        for (int earlier = 0; earlier <= 5; earlier++) {
            LonelyDots x = Scene.made(earlier);
            x.kind(0);
            C.due("NULL", x.status(), 1);
            x.set(0, 20, 0);
            C.due("PLACE", x.status(), 2);
            x.as(1, 2);
            C.due("KIND", x.status(), 3);
            x.sheet(1, 1, -1);
            C.due("SIZE", x.status(), 4);
            x.copy(0, 0, 1, 0, 0);
            C.due("STORE", x.status(), 5);
            x.copy(0, 0, 7, 0, 0);
            C.due("none", x.status(), 0);
        }
    }

    private static void statusOfStatus() {
        for (int status = 0; status <= 5; status++) {
            int number = status;
            LonelyDots x = Scene.made(number);
            C.due("asked once", x.status(), number);
            C.due("asked twice", x.status(), number);
        }
    }
}
