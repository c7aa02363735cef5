/** The boundary sentences of part 4 of the terms (ASKS, BODIES, THE TRACE), and of promises 18 and 19. */
public final class BodiesTest {
    private static final Checks C = new Checks();

    public static void main(String[] args) {
        sizeOfTheFewestAndMost();
        markOfTheFewestAndMost();
        greatestMarks();
        traceHasNoMore();
        traceIsEmptyAhead();
        traceIsLeft();
        askIsNoChange();
        C.end("BodiesTest");
    }

    private static void asked(String name, LonelyDots x, int what, int answer, int... bodies) {
        C.due(name, x.ask(0, what), answer);
        for (int i = 0; i <= 16; i++) {
            C.due(name + ": number " + i, x.trace(i), i < bodies.length ? bodies[i] : Checks.NONE);
        }
    }

    // "11 of ORDERS: n." "20 lent to all THINGS: SIZE and 4." "21 of LONELY ones: twice what 20 gives (asked once)."
    private static void sizeOfTheFewestAndMost() {
        LonelyDots x = new LonelyDots();
        Checks.order(x, 0, 0);
        asked("SIZE of one row", x, 0, 1, 11);
        asked("MARK of one row", x, 1, 10, 21, 20, 11);
        Checks.order(x, 0, Checks.line(3));
        asked("SIZE of three rows", x, 0, 3, 11);
        asked("MARK of three rows", x, 1, 7, 20, 11);
        Checks.order(x, 0, Checks.line(16));
        asked("SIZE of 16 rows", x, 0, 16, 11);
        asked("MARK of 16 rows", x, 1, 20, 20, 11);
        x.powers(0, 17, 3, 0);
        asked("SIZE of 16 rows, LONELY", x, 0, 16, 11);
        asked("MARK of 16 rows, LONELY", x, 1, 40, 21, 20, 11);
    }

    // "12 of MARKS: what 10 gives, and the greatest mark." "13 ..: twice what 12 gives (asked once)."
    // "22 of MARKS: how many."
    private static void markOfTheFewestAndMost() {
        LonelyDots x = new LonelyDots();
        Checks.marks(x, 0, 0);
        asked("SIZE of mark 0 alone", x, 0, 3, 14, 13, 12, 10, 22);
        asked("MARK of mark 0 alone", x, 1, 1, 22);
        Checks.marks(x, 0, Checks.line(3));
        asked("SIZE of 0, 1, 2", x, 0, 3, 12, 10);
        asked("MARK of 0, 1, 2", x, 1, 3, 22);
        Checks.marks(x, 0, Checks.line(12));
        asked("SIZE of twelve marks", x, 0, 12, 12, 10);
        asked("MARK of twelve marks", x, 1, 12, 22);
        Checks.marks(x, 0, 0, 2);
        asked("SIZE of a RULER", x, 0, 6, 13, 12, 10);
        asked("MARK of a RULER", x, 1, 2, 22);
    }

    // "and the greatest mark": not the greatest distance, and not the first mark.
    private static void greatestMarks() {
        LonelyDots x = new LonelyDots();
        Checks.marks(x, 0, 200);
        asked("SIZE of mark 200 alone", x, 0, 403, 14, 13, 12, 10, 22);
        Checks.marks(x, 0, 199, 200);
        asked("SIZE of 199, 200", x, 0, 404, 14, 13, 12, 10, 22);
        Checks.marks(x, 0, 0, 200);
        asked("SIZE of 0, 200", x, 0, 402, 13, 12, 10);
        Checks.marks(x, 0, 0, 100, 200);
        asked("SIZE of 0, 100, 200", x, 0, 201, 12, 10);
        Checks.marks(x, 0, 194, 195, 198, 200);
        asked("SIZE of four PERFECT ones", x, 0, 406, 14, 13, 12, 10, 22);
        Checks.marks(x, 0, 0, 2, 6, 24, 29, 40, 43, 55, 68, 75, 76, 85);
        asked("SIZE of a RULER of twelve", x, 0, 172, 13, 12, 10);
    }

    // "Number i of THE TRACE; NONE." "(the first 16)": no ask leaves more than five.
    private static void traceHasNoMore() {
        LonelyDots x = Scene.made(5);
        int[] bodies = {14, 13, 12, 10, 22};
        for (int i = 0; i < bodies.length; i++) {
            C.due("number " + i, x.trace(i), bodies[i]);
        }
        for (int i : new int[] {Integer.MIN_VALUE, -16, -1, 5, 6, 15, 16, 17, Integer.MAX_VALUE}) {
            C.due("number " + i, x.trace(i), Checks.NONE);
        }
        C.due("status() stays", x.status(), 5);
        C.due("of a new object", new LonelyDots().trace(0), Checks.NONE);
    }

    // "THE TRACE is empty ahead of it, if it is not BAD."
    private static void traceIsEmptyAhead() {
        LonelyDots x = Scene.made(0);
        for (int times = 0; times < 5; times++) {
            x.ask(Scene.ONE_MARK, 0);
            C.due("the last number, asked again", x.trace(4), 22);
            C.due("no more numbers, asked again", x.trace(5), Checks.NONE);
        }
        x.ask(Scene.RULER, 1);
        C.due("a shorter one", x.trace(0), 22);
        C.due("nothing is left of the longer one", x.trace(1), Checks.NONE);
        C.due("NULL", x.ask(Scene.EMPTY, 1), Checks.NULL);
        C.due("nothing is left", x.trace(0), Checks.NONE);
        C.due("NULL again", x.ask(Scene.EMPTY, 0), Checks.NULL);
        C.due("nothing still", x.trace(0), Checks.NONE);
        C.bad("BAD", x.ask(Scene.LINE, 2));
        C.due("nothing even now", x.trace(0), Checks.NONE);
    }

    // BAD leaves THE TRACE, and no other call touches it.
    private static void traceIsLeft() {
        LonelyDots x = Scene.made(0);
        int[][] bad = {{-1, 0}, {10, 0}, {Scene.LINE, -1}, {Scene.LINE, 2}, {Scene.EMPTY, -1}, {Scene.EMPTY, 2},
            {Integer.MIN_VALUE, 0}, {Integer.MAX_VALUE, 1}, {Scene.LINE, Integer.MIN_VALUE},
            {Scene.LINE, Integer.MAX_VALUE}};
        for (int[] row : bad) {
            C.bad("ask " + row[0] + " " + row[1], x.ask(row[0], row[1]));
            C.due("the first number stays", x.trace(0), 14);
            C.due("the last number stays", x.trace(4), 22);
        }
        x.clear(Scene.PERFECT);
        x.kind(Scene.PERFECT);
        x.nth(Scene.PERFECT, 7, 0);
        x.take(0, 1, 0);
        x.lonely(7, 1);
        x.count(0);
        C.due("other calls leave it", x.trace(0), 14);
        C.due("other calls add nothing", x.trace(5), Checks.NONE);
    }

    private static void askIsNoChange() {
        for (int place = 0; place < 10; place++) {
            for (int what = 0; what < 2; what++) {
                LonelyDots x = Scene.made(0);
                x.ask(place, what);
                C.due("ask " + place + " " + what + " changes nothing",
                        Scene.rest(x).equals(Scene.rest(Scene.made(0))) ? 1 : 0, 1);
            }
        }
    }
}
