import java.util.List;

/**
 * The refusals of promises 2 to 28, a table for each call: every parameter with the last values that are taken and
 * the first that are refused, on both sides; of several refusals the one that comes first; what status() says then,
 * for every status ahead; and that nothing else has changed.
 */
public final class RefusalsTest {
    private static final Checks C = new Checks();
    private static final Edges E = new Edges(C);
    private static final int LEAST = Integer.MIN_VALUE, GREATEST = Integer.MAX_VALUE;
    private static final int[] NO_PRIMES = {
        LEAST, -17, -7, -3, -1, 0, 1, 4, 6, 8, 9, 10, 12, 14, 15, 16, 18, 19, 23, GREATEST};

    public static void main(String[] args) {
        sheets();
        copies();
        thingsOfSheets();
        thingsOfPrimes();
        corners();
        turnsAndRanks();
        kinds();
        asked();
        meetings();
        echoes();
        counted();
        C.end("RefusalsTest");
    }

    private static List<Edges.Value> sheetsThen(int rank) {
        return Edges.join(Edges.outside(0, 7), Edges.then(rank, Checks.NULL, Scene.MISSING));
    }

    private static List<Edges.Value> placesThen(int rank) {
        return Edges.join(Edges.outside(0, 9), Edges.then(rank, Checks.NULL, Scene.EMPTY, Scene.EMPTY_TOO));
    }

    /** Places of ORDERS: NULL, then KIND (no ORDER). */
    private static List<Edges.Value> ordersThen(int rank) {
        int[] noOrders = {Scene.MARKS, Scene.RULER, Scene.PERFECT, Scene.ONE_MARK};
        return Edges.join(placesThen(rank), Edges.then(rank, Checks.KIND, noOrders));
    }

    // "BAD: SHEET, LANE, n above 60; SIZE." "BAD: SHEET; NULL; PLACE." "BAD; NULL."
    private static void sheets() {
        E.table("sheet", true, (x, v) -> x.sheet(v[0], v[1], v[2]), List.of(
                Edges.from(0, 7), Edges.join(Edges.from(0, 2), Edges.fine(1)),
                Edges.join(Edges.bad(61, GREATEST), Edges.then(1, Checks.SIZE, -1, LEAST), Edges.fine(0, 60))));
        E.table("set", true, (x, v) -> x.set(v[0], v[1], v[2]), List.of(
                Edges.join(sheetsThen(1), Edges.then(2, Checks.PLACE, Scene.NO_ITEMS), Edges.fine(Scene.BYTES)),
                Edges.join(Edges.then(2, Checks.PLACE, LEAST, -1, 20, GREATEST), Edges.fine(0, 19)),
                Edges.fine(0, LEAST, GREATEST)));
        E.table("drop", true, (x, v) -> x.drop(v[0]), List.of(Edges.join(sheetsThen(1), Edges.fine(0, 1, 2, 3, 7))));
    }

    // "BAD: SHEETS; NULL; STORE; PLACE (i, j, n below 0, or beyond an end)."
    private static void copies() {
        E.table("copy", true, (x, v) -> x.copy(v[0], v[1], v[2], v[3], v[4]), List.of(
                Edges.join(Edges.outside(0, 7), Edges.then(1, Checks.NULL, 4), Edges.then(2, Checks.STORE, 1, 2),
                        Edges.fine(Scene.BYTES)),
                Edges.join(Edges.then(3, Checks.PLACE, LEAST, -1, 21, GREATEST), Edges.fine(0)),
                Edges.join(Edges.outside(0, 7), Edges.then(1, Checks.NULL, 6), Edges.fine(Scene.TWO_BYTES)),
                Edges.join(Edges.then(3, Checks.PLACE, LEAST, -1, 3, GREATEST), Edges.fine(0)),
                Edges.join(Edges.then(3, Checks.PLACE, LEAST, -1, 3, GREATEST), Edges.fine(0, 2))));
        E.found("copy of nothing from behind the end of a", Checks.PLACE, x -> x.copy(0, 21, 7, 0, 0));
        E.found("copy of nothing to behind the end of b", Checks.PLACE, x -> x.copy(0, 0, 7, 3, 0));
        E.told("copy of nothing from the end of a to the end of b", 0, x -> x.copy(0, 20, 7, 2, 0));
        E.told("copy of nothing from no ITEMS to no ITEMS", 0, x -> x.copy(2, 0, 2, 0, 0));
        E.found("copy from one ITEM beyond the end of a", Checks.PLACE, x -> x.copy(0, 19, 7, 0, 2));
        E.found("copy to one ITEM beyond the end of b", Checks.PLACE, x -> x.copy(0, 0, 7, 1, 2));
        E.found("copy of one ITEM from no ITEMS", Checks.PLACE, x -> x.copy(2, 0, 3, 0, 1));
        E.found("copy: i and n wrap around together", Checks.PLACE, x -> x.copy(0, GREATEST, 0, 0, GREATEST));
        E.found("copy: j and n wrap around together", Checks.PLACE, x -> x.copy(0, 0, 0, GREATEST, GREATEST));
        E.found("copy: i, j and n wrap around to 0", Checks.PLACE, x -> x.copy(0, LEAST, 0, LEAST, LEAST));
    }

    // "BAD: place, SHEET, n; NULL; PLACE; then BAD: they are not .."
    private static void thingsOfSheets() {
        List<Edges.Value> sheets =
                Edges.join(sheetsThen(1), Edges.then(3, Checks.BAD, Scene.SHORTS), Edges.fine(Scene.BYTES));
        List<Edges.Value> items = Edges.join(Edges.then(2, Checks.PLACE, LEAST, -1, 20, GREATEST), Edges.fine(0));
        E.table("order", true, (x, v) -> x.order(v[0], v[1], v[2], v[3]),
                List.of(Edges.from(0, 9), sheets, items, Edges.from(1, 16)));
        E.table("marks", true, (x, v) -> x.marks(v[0], v[1], v[2], v[3]),
                List.of(Edges.from(0, 9), sheets, items, Edges.from(1, 12)));
        E.found("order: one ITEM beyond the end", Checks.PLACE, x -> x.order(0, 0, 5, 16));
        E.bad("order: just to the end, then BAD", x -> x.order(0, 0, 4, 16));
        E.found("marks: one ITEM beyond the end", Checks.PLACE, x -> x.marks(0, 0, 9, 12));
        E.bad("marks: just to the end, then BAD", x -> x.marks(0, 0, 8, 12));
        E.found("order of no ITEMS", Checks.PLACE, x -> x.order(0, Scene.NO_ITEMS, 0, 1));
        E.found("marks of no ITEMS", Checks.PLACE, x -> x.marks(0, Scene.NO_ITEMS, 0, 1));
    }

    // "BAD: place, p, g (1 to p - 1, a ROOT), e." "BAD: place, p, g, h."
    private static void thingsOfPrimes() {
        List<Edges.Value> roots = Edges.join(Edges.outside(1, 6), Edges.bad(-4, 1, 2, 4, 6, 10, 12), Edges.fine(3, 5));
        E.table("powers", true, (x, v) -> x.powers(v[0], v[1], v[2], v[3]), List.of(
                Edges.from(0, 9), Edges.join(Edges.bad(NO_PRIMES), Edges.bad(2), Edges.fine(7)), roots, Edges.from(0, 15)));
        E.table("sums", true, (x, v) -> x.sums(v[0], v[1], v[2], v[3]), List.of(
                Edges.from(0, 9), Edges.join(Edges.bad(NO_PRIMES), Edges.bad(2, 3), Edges.fine(7)), roots, roots));
    }

    // "BAD: places, CORNER; NULL; KIND: no ORDER; then NONE: there is no DOT, or n is 1."
    // "BAD: places, CORNER; NULL; KIND; then FULL: n is 16."
    private static void corners() {
        E.table("take", true, (x, v) -> x.take(v[0], v[1], v[2]), List.of(
                Edges.join(Edges.from(0, 9), Edges.fine(Scene.EMPTY_TOO)),
                Edges.join(ordersThen(1), Edges.then(2, Checks.NONE, Scene.ONE_ROW), Edges.fine(Scene.LINE)),
                Edges.join(Edges.from(0, 3), Edges.then(2, Checks.NONE, 1, 2))));
        E.table("put", true, (x, v) -> x.put(v[0], v[1], v[2]), List.of(
                Edges.join(Edges.from(0, 9), Edges.fine(Scene.EMPTY_TOO)),
                Edges.join(ordersThen(1), Edges.then(2, Checks.FULL, Scene.SIXTEEN_ROWS),
                        Edges.fine(Scene.LINE, Scene.LONELY, Scene.ONE_ROW)),
                Edges.join(Edges.from(0, 3), Edges.fine(1, 2))));
    }

    // "BAD: places, TURN; NULL; KIND." "BAD: place, n; NONE: there are not so many, or i is below 0." "BAD."
    private static void turnsAndRanks() {
        E.table("turn", true, (x, v) -> x.turn(v[0], v[1], v[2]), List.of(
                Edges.join(Edges.from(0, 9), Edges.fine(Scene.EMPTY_TOO)),
                Edges.join(ordersThen(1), Edges.fine(Scene.LINE, Scene.LONELY, Scene.SIXTEEN_ROWS, Scene.ONE_ROW)),
                Edges.join(Edges.from(0, 7), Edges.fine(1, 2, 3, 4, 5, 6))));
        E.table("nth", true, (x, v) -> x.nth(v[0], v[1], v[2]), List.of(
                Edges.from(0, 9), Edges.join(Edges.from(1, 7), Edges.fine(2, 3, 4, 5, 6)),
                Edges.join(Edges.then(1, Checks.NONE, LEAST, -1, 200, GREATEST), Edges.fine(0))));
        E.table("clear", false, (x, v) -> x.clear(v[0]), List.of(
                Edges.join(Edges.from(0, 9), Edges.fine(1, 2, 3, 4, 5, 6, 7, 8))));
    }

    // "BAD; NULL." "of nothing 0. BAD." "BAD; NULL; KIND: it is not that, too."
    private static void kinds() {
        E.table("kind", true, (x, v) -> x.kind(v[0]), List.of(
                Edges.join(placesThen(1), Edges.fine(1, 2, 3, 4, 5, 6, 7, 9))));
        E.table("is", false, (x, v) -> x.is(v[0], v[1]), List.of(
                Edges.join(Edges.from(0, 9), Edges.fine(1, 2, 3, 4, 5, 6, 7, 8)),
                Edges.join(Edges.from(0, 5), Edges.fine(1, 2, 3, 4))));
        E.table("as (LINE)", true, (x, v) -> x.as(v[0], v[1]), List.of(
                Edges.join(placesThen(1), Edges.fine(Scene.LINE)),
                Edges.join(Edges.outside(0, 5), Edges.then(2, Checks.KIND, 2, 3, 4, 5), Edges.fine(0, 1))));
        E.table("as (RULER)", true, (x, v) -> x.as(v[0], v[1]), List.of(
                Edges.join(placesThen(1), Edges.fine(Scene.RULER)),
                Edges.join(Edges.outside(0, 5), Edges.then(2, Checks.KIND, 1, 2, 5), Edges.fine(0, 3, 4))));
        E.table("as (MARKS)", true, (x, v) -> x.as(v[0], v[1]), List.of(
                Edges.fine(Scene.MARKS), Edges.join(Edges.then(2, Checks.KIND, 1, 2, 4, 5), Edges.fine(0, 3))));
        E.table("as (LONELY)", true, (x, v) -> x.as(v[0], v[1]), List.of(
                Edges.fine(Scene.LONELY), Edges.join(Edges.then(2, Checks.KIND, 3, 4, 5), Edges.fine(0, 1, 2))));
        E.table("as (PERFECT)", true, (x, v) -> x.as(v[0], v[1]), List.of(
                Edges.fine(Scene.PERFECT, Scene.ONE_MARK),
                Edges.join(Edges.then(2, Checks.KIND, 1, 2), Edges.fine(0, 3, 4, 5))));
    }

    // "BAD; NULL." "NONE." "BAD: place; NULL; then BAD: k." "NONE: nothing is. BAD: place, what; NULL."
    private static void asked() {
        E.table("ask", true, (x, v) -> x.ask(v[0], v[1]), List.of(
                Edges.join(placesThen(1), Edges.fine(1, 2, 3, 4, 5, 6, 7, 9)), Edges.from(0, 1)));
        E.table("trace", false, (x, v) -> x.trace(v[0]), List.of(
                Edges.join(Edges.then(1, Checks.NONE, LEAST, -1, 5, 15, 16, GREATEST), Edges.fine(0, 1, 2, 3, 4))));
        E.table("at (three rows)", true, (x, v) -> x.at(v[0], v[1]), List.of(
                Edges.join(placesThen(1), Edges.fine(Scene.LINE)),
                Edges.join(Edges.then(2, Checks.BAD, LEAST, -1, 3, GREATEST), Edges.fine(0, 2))));
        E.table("at (two marks)", true, (x, v) -> x.at(v[0], v[1]), List.of(
                Edges.join(placesThen(1), Edges.fine(Scene.RULER, Scene.PERFECT)),
                Edges.join(Edges.then(2, Checks.BAD, LEAST, -1, 2, GREATEST), Edges.fine(0, 1))));
        E.table("at (16 rows)", true, (x, v) -> x.at(v[0], v[1]), List.of(
                Edges.fine(Scene.SIXTEEN_ROWS),
                Edges.join(Edges.then(2, Checks.BAD, LEAST, -1, 16, GREATEST), Edges.fine(0, 15))));
        int[] unlike = {Scene.LONELY, Scene.RULER, Scene.PERFECT, Scene.SIXTEEN_ROWS, Scene.ONE_ROW, Scene.ONE_MARK};
        E.table("alike", true, (x, v) -> x.alike(v[0], v[1]), List.of(
                Edges.join(placesThen(1), Edges.then(2, Checks.NONE, unlike), Edges.fine(Scene.LINE, Scene.MARKS)),
                Edges.join(Edges.from(0, 3), Edges.fine(1, 2))));
    }

    // "BAD: places, r, s; NULL, KIND (a, then b)." "BAD; NULL; KIND." "BAD: places; NULL, KIND (a, then b)."
    private static void meetings() {
        List<Edges.Value> first = Edges.join(ordersThen(1), Edges.fine(Scene.LINE));
        List<Edges.Value> second = Edges.join(ordersThen(2), Edges.fine(Scene.LONELY, Scene.LINE));
        List<Edges.Value> move = Edges.from(-20, 20);
        E.table("meeting", true, (x, v) -> x.meeting(v[0], v[1], v[2], v[3]), List.of(first, second, move, move));
        E.table("together", true, (x, v) -> x.together(v[0], v[1]), List.of(first, second));
        E.table("most", true, (x, v) -> x.most(v[0]), List.of(
                Edges.join(ordersThen(1), Edges.fine(Scene.LINE, Scene.LONELY, Scene.SIXTEEN_ROWS, Scene.ONE_ROW))));
    }

    // "BAD: place, SHEET, n, what; NULL, KIND (the ORDER's place), NULL, PLACE of the SHEET."
    private static void echoes() {
        E.table("echo", true, (x, v) -> x.echo(v[0], v[1], v[2], v[3], v[4]), List.of(
                Edges.join(Edges.outside(0, 9), Edges.then(1, Checks.NULL, Scene.EMPTY),
                        Edges.then(1, Checks.KIND, Scene.MARKS), Edges.fine(Scene.LINE)),
                Edges.join(Edges.outside(0, 7), Edges.then(2, Checks.NULL, 5),
                        Edges.then(3, Checks.PLACE, Scene.NO_ITEMS), Edges.fine(Scene.BYTES)),
                Edges.join(Edges.then(3, Checks.PLACE, LEAST, -1, 19, 20, GREATEST), Edges.fine(0)),
                Edges.join(Edges.outside(1, 30), Edges.then(3, Checks.PLACE, 11, 30), Edges.fine(1, 10)),
                Edges.join(Edges.from(0, 2), Edges.fine(1))));
        E.told("echo: a pair at the very end", 0, x -> x.echo(Scene.LINE, 0, 18, 1, 2));
        E.found("echo: half a pair at the very end", Checks.PLACE, x -> x.echo(Scene.LINE, 0, 19, 1, 2));
        E.found("echo: ten pairs, one ITEM beyond", Checks.PLACE, x -> x.echo(Scene.LINE, 0, 1, 10, 2));
        E.found("echo: i and n wrap around", Checks.PLACE, x -> x.echo(Scene.LINE, 0, GREATEST - 1, 30, 2));
    }

    // "BAD." (three times)
    private static void counted() {
        E.table("lonely", false, (x, v) -> x.lonely(v[0], v[1]), List.of(Edges.from(1, 7), Edges.from(0, 1)));
        E.table("shortest", false, (x, v) -> x.shortest(v[0]), List.of(Edges.from(1, 6)));
        E.table("count", false, (x, v) -> x.count(v[0]), List.of(Edges.join(Edges.from(0, 5), Edges.fine(1, 2, 3, 4))));
    }
}
