import java.util.List;

/** The boundary sentences of "What it is" and of "Terms", ahead of the KINDS; each method names its sentence. */
public final class TermsTest {
    private static final Checks C = new Checks();
    private static final Edges E = new Edges(C);

    public static void main(String[] args) {
        lastOf512Calls();
        numbersGoFromZeroOn();
        numbersOfFindings();
        badAheadOfFull();
        firstFindingInTime();
        askAloneEmptiesTheTrace();
        sheetsAreMissingAtFirst();
        placesAreEmptyAtFirst();
        itemsAreZeroAtFirst();
        thingsNeverChange();
        C.end("TermsTest");
    }

    /** Each call once, with arguments that are fine on a scene. */
    private static List<Scene.Call> everyCall() {
        return List.of(
                x -> x.sheet(7, 2, 60), x -> x.set(0, 0, 300), x -> x.copy(0, 0, 0, 1, 19), x -> x.drop(4),
                x -> x.order(0, 0, 0, 16), x -> x.marks(0, 0, 0, 12), x -> x.powers(0, 17, 3, 15),
                x -> x.sums(0, 17, 3, 5), x -> x.take(0, 1, 3), x -> x.put(0, 2, 1), x -> x.turn(0, 6, 5),
                x -> x.nth(0, 7, 199), x -> x.clear(8), x -> x.kind(6), x -> x.is(6, 2), x -> x.as(6, 1),
                x -> x.ask(9, 0), x -> x.trace(0), x -> x.at(6, 15), x -> x.alike(3, 3),
                x -> x.meeting(6, 6, -1, 4), x -> x.most(6), x -> x.together(6, 2), x -> x.echo(1, 0, 0, 10, 2),
                x -> x.lonely(7, 1), x -> x.shortest(6), x -> x.count(1), x -> x.status());
    }

    // "An object is used for at most 512 calls after it has been made": the last of them is answered as the first.
    private static void lastOf512Calls() {
        C.due("all calls", everyCall().size(), 28);
        for (Scene.Call call : everyCall()) {
            LonelyDots x = new LonelyDots();
            call.on(x);
            int first = call.on(x);
            int calls = 2;
            while (calls < 511) {
                call.on(x);
                calls++;
            }
            C.due("call 512 on an empty object", call.on(x), first);
        }
        for (Scene.Call call : everyCall()) {
            LonelyDots x = Scene.made(0);
            int first = call.on(x);
            for (int calls = 0; calls < 400; calls++) {
                call.on(x);
            }
            C.due("call 401 on a scene", call.on(x), first);
        }
    }

    // "Numbers go from 0 on."
    private static void numbersGoFromZeroOn() {
        LonelyDots x = new LonelyDots();
        C.due("SHEET 0 and LANE 0", x.sheet(0, 0, 3), 3);
        C.due("ITEM 0", x.set(0, 0, 1), 1);
        C.due("ITEM 2, the last of three", x.set(0, 2, 2), 2);
        C.due("place 0", x.order(0, 0, 0, 3), 2);
        C.due("row 0", x.at(0, 0), 1);
        C.due("row 1", x.at(0, 1), 0);
        C.due("row 2, the last of three", x.at(0, 2), 2);
        x.ask(0, 0);
        C.due("number 0 of THE TRACE", x.trace(0), 11);
        x.nth(0, 3, 0);
        C.numbers("LONELY ORDER 0", x, 0, 0, 2, 1);
    }

    // "FINDINGS ..: -1000010 less 1 NULL .., 2 PLACE .., 3 KIND .., 4 SIZE .., 5 STORE".
    private static void numbersOfFindings() {
        E.found("NULL: a SHEET that is missing", -1000011, x -> x.drop(4));
        E.found("NULL: a place of THE SHELF that is empty", -1000011, x -> x.kind(0));
        E.found("PLACE: no such place of a SHEET", -1000012, x -> x.set(0, 20, 0));
        E.found("KIND: a THING that is not that", -1000013, x -> x.as(1, 3));
        E.found("SIZE: fewer than none", -1000014, x -> x.sheet(0, 0, -1));
        E.found("STORE: SHEETS of two LANES", -1000015, x -> x.copy(0, 0, 1, 0, 1));
    }

    // "Refusals are answers, the first of these that fits: BAD .., FULL (as told), then FINDINGS".
    private static void badAheadOfFull() {
        E.refused("FULL", -1000003, x -> x.put(0, Scene.SIXTEEN_ROWS, 3));
        E.bad("BAD place ahead of FULL", x -> x.put(10, Scene.SIXTEEN_ROWS, 3));
        E.bad("BAD CORNER ahead of FULL", x -> x.put(0, Scene.SIXTEEN_ROWS, 4));
        E.bad("BAD place ahead of NULL", x -> x.put(-1, Scene.EMPTY, 0));
        E.bad("BAD CORNER ahead of KIND", x -> x.put(0, Scene.MARKS, -1));
        E.bad("BAD LANE ahead of SIZE", x -> x.sheet(0, 3, -1));
        E.bad("BAD SHEET ahead of NULL", x -> x.copy(4, 0, 8, 0, 0));
        E.bad("BAD r ahead of NULL", x -> x.meeting(0, 0, 21, 0));
        E.bad("BAD what ahead of NULL, KIND and PLACE", x -> x.echo(3, 4, -1, 1, 3));
    }

    // "then FINDINGS, of several the first in time".
    private static void firstFindingInTime() {
        E.found("copy: NULL, STORE and PLACE", Checks.NULL, x -> x.copy(1, -1, 4, -1, -1));
        E.found("copy: STORE and PLACE", Checks.STORE, x -> x.copy(1, -1, 0, 99, -1));
        E.found("order: NULL and PLACE", Checks.NULL, x -> x.order(0, 4, -1, 1));
        E.found("meeting: KIND of a, NULL of b", Checks.KIND, x -> x.meeting(3, 0, 0, 0));
        E.found("meeting: NULL of a, KIND of b", Checks.NULL, x -> x.meeting(0, 3, 0, 0));
        E.found("together: KIND of a, NULL of b", Checks.KIND, x -> x.together(3, 0));
        E.found("together: NULL of a, KIND of b", Checks.NULL, x -> x.together(0, 3));
        E.found("echo: KIND of the place, NULL of the SHEET", Checks.KIND, x -> x.echo(3, 4, 0, 1, 0));
        E.found("echo: KIND of the place, PLACE of the SHEET", Checks.KIND, x -> x.echo(3, 0, -1, 1, 0));
        E.found("echo: NULL of the SHEET and PLACE", Checks.NULL, x -> x.echo(1, 4, -1, 1, 0));
    }

    // "What is refused, or found, changes nothing but status() (and THE TRACE, by ask())." The rest: RefusalsTest.
    private static void askAloneEmptiesTheTrace() {
        E.foundByAsk("ask SIZE of an empty place", Checks.NULL, x -> x.ask(Scene.EMPTY, 0));
        E.foundByAsk("ask MARK of an empty place", Checks.NULL, x -> x.ask(Scene.EMPTY_TOO, 1));
        E.bad("ask of no place", x -> x.ask(10, 0));
        E.bad("ask of what is not told", x -> x.ask(Scene.EMPTY, 2));
        E.found("another FINDING", Checks.NULL, x -> x.at(Scene.EMPTY, 0));
    }

    // "SHEETS 0 .. 7 are missing (at first)".
    private static void sheetsAreMissingAtFirst() {
        for (int sheet = 0; sheet < 8; sheet++) {
            LonelyDots x = new LonelyDots();
            C.due("set " + sheet, x.set(sheet, 0, 0), Checks.NULL);
            C.due("copy " + sheet, x.copy(sheet, 0, sheet, 0, 0), Checks.NULL);
            C.due("drop " + sheet, x.drop(sheet), Checks.NULL);
            C.due("order " + sheet, x.order(0, sheet, 0, 1), Checks.NULL);
            C.due("marks " + sheet, x.marks(0, sheet, 0, 1), Checks.NULL);
            C.due("powers", x.powers(0, 3, 2, 0), 2);
            C.due("echo " + sheet, x.echo(0, sheet, 0, 1, 0), Checks.NULL);
            C.due("sheet " + sheet, x.sheet(sheet, 2, 60), 60);
            C.due("just that one is there", x.count(0), 1);
            C.due("to the next one", x.copy(sheet, 0, (sheet + 1) % 8, 0, 0), Checks.NULL);
            C.due("from the next one", x.copy((sheet + 1) % 8, 0, sheet, 0, 0), Checks.NULL);
        }
    }

    // "THE SHELF has places 0 .. 9, each empty (at first) or with a THING".
    private static void placesAreEmptyAtFirst() {
        for (int place = 0; place < 10; place++) {
            LonelyDots x = new LonelyDots();
            C.due("take " + place, x.take(place, place, 0), Checks.NULL);
            C.due("put " + place, x.put(place, place, 0), Checks.NULL);
            C.due("turn " + place, x.turn(place, place, 0), Checks.NULL);
            C.due("clear " + place, x.clear(place), 0);
            C.due("kind " + place, x.kind(place), Checks.NULL);
            C.due("is " + place, x.is(place, 0), 0);
            C.due("as " + place, x.as(place, 0), Checks.NULL);
            C.due("ask " + place, x.ask(place, 0), Checks.NULL);
            C.due("at " + place, x.at(place, 0), Checks.NULL);
            C.due("alike " + place, x.alike(place, 0), Checks.NULL);
            C.due("meeting " + place, x.meeting(place, place, 0, 0), Checks.NULL);
            C.due("most " + place, x.most(place), Checks.NULL);
            C.due("together " + place, x.together(place, place), Checks.NULL);
            C.due("echo " + place, x.echo(place, 0, 0, 1, 0), Checks.NULL);
            C.due("powers " + place, x.powers(place, 3, 2, 0), 2);
            C.due("just that place has a THING", x.count(1), 1);
            C.due("kind " + place, x.kind(place), 2);
        }
    }

    // "or have a LANE (0 bytes, 1 shorts, 2 ints) and 0 to 60 ITEMS, 0 at first."
    private static void itemsAreZeroAtFirst() {
        for (int lane = 0; lane < 3; lane++) {
            for (int n : new int[] {0, 1, 59, 60}) {
                LonelyDots x = new LonelyDots();
                C.due("a SHEET of " + n, x.sheet(3, lane, n), n);
                for (int i = 0; i < n; i++) {
                    C.due("ITEM " + i + " is a mark", x.marks(0, 3, i, 1), 5);
                    C.due("ITEM " + i + " at first", x.at(0, 0), 0);
                }
                C.due("behind the last ITEM", x.marks(0, 3, n, 1), Checks.PLACE);
                C.due("as many ITEMS", x.drop(3), n);
            }
        }
    }

    // "THINGS never change."
    private static void thingsNeverChange() {
        LonelyDots x = new LonelyDots();
        Checks.write(x, 0, 0, 2, 1, 3);
        x.order(0, 0, 0, 4);
        x.marks(1, 0, 2, 2);
        x.turn(2, 0, 0);
        x.set(0, 2, 7);
        C.numbers("an ORDER whose ITEMS are set", x, 0, 0, 2, 1, 3);
        C.numbers("MARKS whose ITEMS are set", x, 1, 1, 3);
        x.copy(0, 0, 0, 1, 3);
        x.sheet(0, 0, 60);
        x.drop(0);
        C.numbers("an ORDER whose SHEET is missing", x, 0, 0, 2, 1, 3);
        C.numbers("MARKS whose SHEET is missing", x, 1, 1, 3);
        x.take(0, 0, 0);
        x.put(0, 0, 1);
        C.numbers("one that was made of another one", x, 2, 0, 2, 1, 3);
        x.turn(3, 2, 0);
        x.clear(2);
        C.numbers("one whose other place is empty", x, 3, 0, 2, 1, 3);
        x.nth(4, 3, 0);
        x.turn(4, 4, 1);
        x.nth(5, 3, 0);
        C.numbers("a LONELY ORDER of the ranks", x, 5, 0, 2, 1);
    }
}
