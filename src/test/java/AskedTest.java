/** Promises 15 to 21: kind, is, as, ask, trace, at, alike. */
public final class AskedTest {
    private static final Checks C = new Checks();
    /** Which KINDS (rows) are which, too (columns). */
    private static final int[][] IS = {
        {1, 0, 0, 0, 0, 0}, {1, 1, 0, 0, 0, 0}, {1, 1, 1, 0, 0, 0},
        {1, 0, 0, 1, 0, 0}, {1, 0, 0, 1, 1, 0}, {1, 0, 0, 1, 1, 1}};

    public static void main(String[] args) {
        kindsAndCasts();
        refused();
        ask();
        traceKept();
        at();
        alikeOfOrders();
        alikeOfMarks();
        alikeRefused();
        C.end("AskedTest");
    }

    /** Places 1 to 5 have a THING told as just that KIND. */
    private static LonelyDots shelfOfKinds() {
        LonelyDots x = new LonelyDots();
        Checks.order(x, 1, 0, 1, 2);
        Checks.order(x, 2, 0, 1, 3, 2);
        Checks.marks(x, 3, 0, 1, 2, 3, 9);
        Checks.marks(x, 4, 0, 1, 5, 7);
        Checks.marks(x, 5, 3, 4);
        return x;
    }

    private static void kindsAndCasts() {
        LonelyDots x = shelfOfKinds();
        int[] size = {0, 3, 4, 5, 4, 2};
        for (int place = 1; place <= 5; place++) {
            C.due("kind", x.kind(place), place);
            for (int kind = 0; kind < 6; kind++) {
                C.due("is " + place + " " + kind, x.is(place, kind), IS[place][kind]);
                boolean fits = IS[place][kind] == 1;
                C.due("as " + place + " " + kind, x.as(place, kind), fits ? size[place] : Checks.KIND);
                C.due("status of as", x.status(), fits ? 0 : 3);
            }
        }
    }

    private static void refused() {
        LonelyDots x = shelfOfKinds();
        for (int place : new int[] {-1, 10, Integer.MIN_VALUE, Integer.MAX_VALUE}) {
            C.bad("kind place", x.kind(place));
            C.bad("is place", x.is(place, 0));
            C.bad("as place", x.as(place, 0));
            C.bad("ask place", x.ask(place, 0));
            C.bad("at place", x.at(place, 0));
            C.bad("alike place", x.alike(place, 0));
        }
        for (int kind : new int[] {-1, 6}) {
            C.bad("is kind", x.is(1, kind));
            C.bad("as kind", x.as(1, kind));
            C.bad("is kind of nothing", x.is(0, kind));
            C.bad("as kind of nothing", x.as(0, kind));
        }
        C.due("kind NULL", x.kind(0), Checks.NULL);
        C.due("as NULL", x.as(0, 1), Checks.NULL);
        C.due("status of NULL", x.status(), 1);
        for (int kind = 0; kind < 6; kind++) {
            C.due("is of nothing", x.is(0, kind), 0);
        }
        C.due("is leaves status", x.status(), 1);
        C.due("is of something", x.is(1, 0), 1);
        C.due("is leaves status still", x.status(), 1);
        C.due("kind", x.kind(1), 1);
        C.due("kind sets status", x.status(), 0);
    }

    private static void ask() {
        LonelyDots x = shelfOfKinds();
        asked(x, 1, 0, 3, 11);
        asked(x, 1, 1, 7, 20, 11);
        asked(x, 2, 0, 4, 11);
        asked(x, 2, 1, 16, 21, 20, 11);
        asked(x, 3, 0, 10, 12, 10);
        asked(x, 3, 1, 5, 22);
        asked(x, 4, 0, 16, 13, 12, 10);
        asked(x, 4, 1, 4, 22);
        asked(x, 5, 0, 12, 14, 13, 12, 10, 22);
        asked(x, 5, 1, 2, 22);
    }

    private static void asked(LonelyDots x, int place, int what, int want, int... bodies) {
        C.due("ask " + place + " " + what, x.ask(place, what), want);
        C.due("status of ask", x.status(), 0);
        for (int i = 0; i < bodies.length; i++) {
            C.due("trace of " + place + " " + what, x.trace(i), bodies[i]);
        }
        for (int i = bodies.length; i < 18; i++) {
            C.due("trace behind " + place + " " + what, x.trace(i), Checks.NONE);
        }
    }

    private static void traceKept() {
        LonelyDots x = shelfOfKinds();
        x.ask(5, 0);
        C.bad("ask what -1", x.ask(5, -1));
        C.bad("ask what 2", x.ask(5, 2));
        C.bad("ask place", x.ask(10, 0));
        C.bad("ask what of nothing", x.ask(0, 2));
        C.due("BAD leaves the trace", x.trace(4), 22);
        x.kind(0);
        C.due("trace", x.trace(0), 14);
        C.due("trace -1", x.trace(-1), Checks.NONE);
        C.due("trace least", x.trace(Integer.MIN_VALUE), Checks.NONE);
        C.due("trace greatest", x.trace(Integer.MAX_VALUE), Checks.NONE);
        C.due("trace leaves status", x.status(), 1);
        x.kind(1);
        C.due("ask NULL", x.ask(0, 0), Checks.NULL);
        C.due("status of NULL", x.status(), 1);
        C.due("NULL empties the trace", x.trace(0), Checks.NONE);
        x.ask(5, 0);
        x.clear(5);
        C.due("clear leaves the trace", x.trace(3), 10);
    }

    private static void at() {
        LonelyDots x = shelfOfKinds();
        C.numbers("order", x, 2, 0, 1, 3, 2);
        C.numbers("marks", x, 3, 0, 1, 2, 3, 9);
        C.due("at NULL ahead of BAD k", x.at(0, -1), Checks.NULL);
        C.due("status of NULL", x.status(), 1);
        C.bad("at k -1", x.at(2, -1));
        C.bad("at k 4", x.at(2, 4));
        C.bad("at k greatest", x.at(2, Integer.MAX_VALUE));
        C.bad("at k least", x.at(2, Integer.MIN_VALUE));
        C.due("BAD k leaves status", x.status(), 1);
        C.due("at", x.at(2, 3), 2);
        C.due("status of at", x.status(), 0);
    }

    private static void alike(LonelyDots x, String name, int... want) {
        for (int what = 0; what < 4; what++) {
            C.due("alike of " + name + " " + what, x.alike(0, what), want[what]);
        }
    }

    private static void alikeOfOrders() {
        LonelyDots x = new LonelyDots();
        Checks.order(x, 0, 0, 1, 2, 3);
        alike(x, "a line", 0, 1, 1, 2);
        Checks.order(x, 0, 4, 0, 2, 1, 3);
        alike(x, "two rows down", 1, 2, 3, 4);
        Checks.order(x, 0, 1, 3, 0, 2);
        alike(x, "the first later pair", 0, 1, 2, 3);
        Checks.order(x, 0, 2, 0, 3, 1);
        alike(x, "a way back", 0, 1, 2, 3);
        Checks.order(x, 0, 0, 2, 5, 1, 3, 4);
        alike(x, "of several first pairs the first", 0, 1, 3, 4);
        Checks.order(x, 0, 1, 2, 4, 5, 0, 3);
        alike(x, "of pairs of one row the first", 0, 1, 2, 3);
        Checks.order(x, 0, 0, 3, 1, 4, 2);
        alike(x, "of later pairs the first", 0, 1, 2, 3);
        Checks.order(x, 0, 0, 1, 3, 2);
        alike(x, "a lonely one", Checks.NONE, Checks.NONE, Checks.NONE, Checks.NONE);
        C.due("status of NONE", x.status(), 0);
    }

    private static void alikeOfMarks() {
        LonelyDots x = new LonelyDots();
        Checks.marks(x, 0, 0, 5, 7, 10);
        alike(x, "next to one another", 0, 1, 1, 3);
        Checks.marks(x, 0, 0, 1, 5, 7, 9);
        alike(x, "behind the first one", 1, 2, 2, 4);
        Checks.marks(x, 0, 0, 1, 3, 7, 10, 11);
        alike(x, "of later pairs the first", 0, 1, 4, 5);
        Checks.marks(x, 0, 0, 3, 4, 9, 12, 20, 23);
        alike(x, "of three pairs the first two", 0, 1, 3, 4);
        Checks.marks(x, 0, 0, 1, 4, 6);
        alike(x, "a ruler", Checks.NONE, Checks.NONE, Checks.NONE, Checks.NONE);
    }

    private static void alikeRefused() {
        LonelyDots x = shelfOfKinds();
        C.bad("alike what -1", x.alike(1, -1));
        C.bad("alike what 4", x.alike(1, 4));
        C.bad("BAD ahead of NULL", x.alike(0, 4));
        C.due("alike NULL", x.alike(0, 3), Checks.NULL);
        C.due("status of NULL", x.status(), 1);
        C.due("alike of one row", x.alike(5, 0), Checks.NONE);
        C.due("status of NONE", x.status(), 0);
    }
}
