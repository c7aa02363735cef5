/** The boundary sentences of promises 2 to 7 (SHEETS, and THINGS made of ITEMS) that are no refusals of numbers. */
public final class SheetEdgesTest {
    private static final Checks C = new Checks();

    public static void main(String[] args) {
        sheetInPlaceOfWhatIsThere();
        itemsOfNoneAndOfSixty();
        lowestBits();
        setChangesOneItem();
        copiedAsTheyWereAhead();
        copyOfNoneAndOfAll();
        copyInEachLane();
        dropTellsHowManyItems();
        ordersOfEachSize();
        columnsEachOnce();
        marksOfEachSize();
        leastAndGreatestMark();
        marksRise();
        itemsOfBytesAreReadWithTheirSign();
        whatAPlaceHasThen();
        C.end("SheetEdgesTest");
    }

    private static void items(String name, LonelyDots x, int sheet, int... want) {
        for (int i = 0; i < want.length; i++) {
            x.marks(9, sheet, i, 1);
            C.due(name + ": ITEM " + i, x.at(9, 0), want[i]);
        }
        C.due(name + ": no more ITEMS", x.set(sheet, want.length, 0), Checks.PLACE);
    }

    // "A SHEET of a LANE with n ITEMS, in place of what is there: n."
    private static void sheetInPlaceOfWhatIsThere() {
        LonelyDots x = new LonelyDots();
        Checks.write(x, 0, 5, 6, 7);
        C.due("as many, the same LANE", x.sheet(0, 2, 3), 3);
        items("as many", x, 0, 0, 0, 0);
        Checks.write(x, 0, 5, 6, 7);
        C.due("more", x.sheet(0, 2, 5), 5);
        items("more", x, 0, 0, 0, 0, 0, 0);
        x.set(0, 4, 9);
        C.due("fewer", x.sheet(0, 2, 1), 1);
        items("fewer", x, 0, 0);
        C.due("more again", x.sheet(0, 2, 5), 5);
        items("more again", x, 0, 0, 0, 0, 0, 0);
        C.due("another LANE", x.sheet(0, 1, 1), 1);
        C.due("another LANE's bits", x.set(0, 0, 32768), -32768);
        C.due("one SHEET still", x.count(0), 1);
        C.due("the last LANE, none", x.sheet(0, 0, 0), 0);
        C.due("none are dropped", x.drop(0), 0);
    }

    // "n ITEMS": 0 to 60.
    private static void itemsOfNoneAndOfSixty() {
        LonelyDots x = new LonelyDots();
        C.due("none", x.sheet(0, 0, 0), 0);
        C.due("ITEM 0 of none", x.set(0, 0, 1), Checks.PLACE);
        C.due("a SHEET of none is there", x.count(0), 1);
        C.due("sixty", x.sheet(0, 0, 60), 60);
        C.due("ITEM 59 of sixty", x.set(0, 59, 1), 1);
        C.due("ITEM 60 of sixty", x.set(0, 60, 1), Checks.PLACE);
        x.sheet(1, 2, 60);
        for (int sheet = 2; sheet < 8; sheet++) {
            C.due("sixty in every SHEET", x.sheet(sheet, sheet % 3, 60), 60);
        }
        C.due("eight SHEETS", x.count(0), 8);
    }

    // "ITEM i becomes v, its lowest bits, as many as the LANE has (read with their sign): what it is then."
    private static void lowestBits() {
        int[][] bytes = {{0, 0}, {127, 127}, {128, -128}, {-128, -128}, {-129, 127}, {255, -1}, {256, 0}, {-1, -1},
            {-256, 0}, {383, 127}, {384, -128}, {65535, -1}, {Integer.MAX_VALUE, -1}, {Integer.MIN_VALUE, 0}};
        int[][] shorts = {{127, 127}, {128, 128}, {32767, 32767}, {32768, -32768}, {-32768, -32768}, {-32769, 32767},
            {65535, -1}, {65536, 0}, {-1, -1}, {-65536, 0}, {98303, 32767}, {98304, -32768}, {Integer.MAX_VALUE, -1},
            {Integer.MIN_VALUE, 0}};
        LonelyDots x = new LonelyDots();
        x.sheet(0, 0, 1);
        x.sheet(1, 1, 1);
        x.sheet(2, 2, 1);
        for (int[] row : bytes) {
            C.due("a byte of " + row[0], x.set(0, 0, row[0]), row[1]);
            C.due("an int of " + row[0], x.set(2, 0, row[0]), row[0]);
        }
        for (int[] row : shorts) {
            C.due("a short of " + row[0], x.set(1, 0, row[0]), row[1]);
            C.due("an int of " + row[0], x.set(2, 0, row[0]), row[0]);
        }
        C.due("a byte that a mark shows", x.set(0, 0, 261) + x.marks(0, 0, 0, 1) + x.at(0, 0), 15);
        C.due("a short that a mark shows", x.set(1, 0, 65541) + x.marks(0, 1, 0, 1) + x.at(0, 0), 15);
        C.due("an int like a refusal", x.set(2, 0, LonelyDots.BAD), -1000001);
        C.due("is none", x.status(), 0);
    }

    private static void setChangesOneItem() {
        LonelyDots x = new LonelyDots();
        Checks.write(x, 0, 1, 2, 3);
        Checks.write(x, 1, 4, 5, 6);
        C.due("the first ITEM", x.set(0, 0, 9), 9);
        C.due("the last ITEM", x.set(0, 2, 8), 8);
        C.due("one before the first", x.set(0, -1, 7), Checks.PLACE);
        C.due("one behind the last", x.set(0, 3, 7), Checks.PLACE);
        items("one SHEET", x, 0, 9, 2, 8);
        items("the other SHEET", x, 1, 4, 5, 6);
    }

    // "n ITEMS of a from i on come to b from j on, as they were ahead: n."
    private static void copiedAsTheyWereAhead() {
        for (int i = 0; i <= 6; i++) {
            for (int j = 0; j <= 6; j++) {
                for (int n = 0; i + n <= 6 && j + n <= 6; n++) {
                    LonelyDots x = new LonelyDots();
                    Checks.write(x, 4, 10, 11, 12, 13, 14, 15);
                    int[] want = {10, 11, 12, 13, 14, 15};
                    for (int k = 0; k < n; k++) {
                        want[j + k] = 10 + i + k;
                    }
                    C.due("copy over itself", x.copy(4, i, 4, j, n), n);
                    items("copy over itself " + i + " " + j + " " + n, x, 4, want);
                }
            }
        }
    }

    // "PLACE (i, j, n below 0, or beyond an end)": none at the very end, and all, are not beyond it.
    private static void copyOfNoneAndOfAll() {
        LonelyDots x = new LonelyDots();
        x.sheet(0, 0, 60);
        x.sheet(1, 0, 60);
        for (int i = 0; i < 60; i++) {
            x.set(0, i, i + 1);
        }
        C.due("none from end to end", x.copy(0, 60, 1, 60, 0), 0);
        C.due("none from behind the end", x.copy(0, 61, 1, 0, 0), Checks.PLACE);
        C.due("none to behind the end", x.copy(0, 0, 1, 61, 0), Checks.PLACE);
        C.due("one from the end", x.copy(0, 60, 1, 0, 1), Checks.PLACE);
        C.due("one to the end", x.copy(0, 0, 1, 60, 1), Checks.PLACE);
        C.due("one more than all", x.copy(0, 0, 1, 0, 61), Checks.PLACE);
        C.due("all, one place on", x.copy(0, 0, 1, 1, 60), Checks.PLACE);
        C.due("all but one, one place on", x.copy(0, 0, 1, 1, 59), 59);
        C.due("the last one", x.copy(0, 59, 1, 0, 1), 1);
        x.marks(0, 1, 0, 3);
        C.due("no order of marks", x.marks(0, 1, 0, 3), Checks.BAD);
        x.marks(0, 1, 0, 1);
        C.due("first", x.at(0, 0), 60);
        x.marks(0, 1, 59, 1);
        C.due("last", x.at(0, 0), 59);
        C.due("all", x.copy(0, 0, 1, 0, 60), 60);
        x.marks(0, 1, 59, 1);
        C.due("last of all", x.at(0, 0), 60);
    }

    // "STORE (SHEETS of two LANES)": not of one LANE, whichever.
    private static void copyInEachLane() {
        LonelyDots x = new LonelyDots();
        for (int lane = 0; lane < 3; lane++) {
            x.sheet(lane, lane, 2);
            x.sheet(lane + 3, lane, 2);
            x.set(lane, 0, 40 + lane);
        }
        for (int a = 0; a < 6; a++) {
            for (int b = 0; b < 6; b++) {
                C.due("copy " + a + " " + b, x.copy(a, 0, b, 1, 1), a % 3 == b % 3 ? 1 : Checks.STORE);
                C.due("status", x.status(), a % 3 == b % 3 ? 0 : 5);
            }
        }
        for (int lane = 0; lane < 3; lane++) {
            x.copy(lane, 0, lane + 3, 0, 1);
            items("copied", x, lane + 3, 40 + lane, 0);
        }
    }

    // "A SHEET is missing from now on: how many ITEMS it had."
    private static void dropTellsHowManyItems() {
        LonelyDots x = new LonelyDots();
        for (int n : new int[] {0, 1, 60}) {
            x.sheet(0, 0, 3);
            x.sheet(7, 2, n);
            C.due("drop of " + n, x.drop(7), n);
            C.due("missing from now on", x.drop(7), Checks.NULL);
            C.due("just that one", x.drop(0), 3);
        }
    }

    // "A place has the ORDER of n rows (1 to 16), c(k) being ITEM i + k of a SHEET."
    private static void ordersOfEachSize() {
        for (int n = 1; n <= 16; n++) {
            LonelyDots x = new LonelyDots();
            int kind = n <= 2 ? 2 : 1;
            C.due("a line of " + n, Checks.order(x, 0, Checks.line(n)), kind);
            C.numbers("a line of " + n, x, 0, Checks.line(n));
            C.due("a line back of " + n, Checks.order(x, 9, Checks.lineBack(n)), kind);
            C.numbers("a line back of " + n, x, 9, Checks.lineBack(n));
        }
        LonelyDots x = new LonelyDots();
        Checks.write(x, 0, 9, 2, 0, 1, 9);
        C.due("amid a SHEET", x.order(0, 0, 1, 3), 2);
        C.numbers("amid a SHEET", x, 0, 2, 0, 1);
    }

    // "then BAD: they are not 0 .. n - 1, each once."
    private static void columnsEachOnce() {
        for (int n = 1; n <= 16; n++) {
            for (int k = 0; k < n; k++) {
                for (int other : new int[] {Integer.MIN_VALUE, -1, (k + 1) % n, n, 32, Integer.MAX_VALUE}) {
                    LonelyDots x = new LonelyDots();
                    int[] columns = Checks.lineBack(n);
                    int own = columns[k];
                    columns[k] = other;
                    int kind = n <= 2 ? 2 : 1;
                    int want = other == own ? kind : Checks.BAD;
                    C.due("row " + k + " of " + n + " has " + other, Checks.order(x, 0, columns), want);
                }
            }
        }
    }

    // "A place has n MARKS (1 to 12), ITEMS of a SHEET from i on."
    private static void marksOfEachSize() {
        for (int n = 1; n <= 12; n++) {
            LonelyDots x = new LonelyDots();
            int[] marks = Checks.line(n);
            C.due(n + " marks", Checks.marks(x, 0, marks), n <= 2 ? 5 : 3);
            C.numbers(n + " marks", x, 0, marks);
        }
        LonelyDots x = new LonelyDots();
        Checks.write(x, 0, 9, 3, 5, 8, 2);
        C.due("amid a SHEET", x.marks(0, 0, 1, 3), 4);
        C.numbers("amid a SHEET", x, 0, 3, 5, 8);
    }

    // "MARKS, a THING: 1 to 12 unlike whole numbers, 0 to 200".
    private static void leastAndGreatestMark() {
        LonelyDots x = new LonelyDots();
        C.due("mark 0", Checks.marks(x, 0, 0), 5);
        C.due("mark 200", Checks.marks(x, 0, 200), 5);
        C.due("marks 0 and 200", Checks.marks(x, 0, 0, 200), 4);
        C.numbers("marks 0 and 200", x, 0, 0, 200);
        for (int bad : new int[] {Integer.MIN_VALUE, -1, 201, Integer.MAX_VALUE}) {
            C.bad("mark " + bad, Checks.marks(x, 0, bad));
            C.bad("mark " + bad + " at first", Checks.marks(x, 0, bad, 100));
            C.bad("mark " + bad + " at last", Checks.marks(x, 0, 100, bad));
        }
        C.numbers("what is there stays", x, 0, 0, 200);
        C.due("189 to 200", Checks.marks(x, 0, 189, 190, 191, 192, 193, 194, 195, 196, 197, 198, 199, 200), 3);
        C.bad("190 to 201", Checks.marks(x, 0, 190, 191, 192, 193, 194, 195, 196, 197, 198, 199, 200, 201));
        C.bad("-1 to 10", Checks.marks(x, 0, -1, 0, 1, 2, 3, 4, 5, 6, 7, 8, 9, 10));
    }

    // "unlike .., rising."
    private static void marksRise() {
        for (int k = 1; k < 12; k++) {
            LonelyDots x = new LonelyDots();
            int[] marks = Checks.line(12);
            marks[k] = marks[k - 1];
            C.bad("mark " + k + " like the one ahead", Checks.marks(x, 0, marks));
            marks[k] = k;
            marks[k - 1] = k;
            C.bad("mark " + (k - 1) + " like the next one", Checks.marks(x, 0, marks));
            marks[k - 1] = k;
            marks[k] = k - 1;
            C.bad("marks " + k + " falling", Checks.marks(x, 0, marks));
            C.due("nothing was put", x.clear(0), 0);
        }
    }

    // "its lowest bits .. (read with their sign)": a byte is never a mark above 127.
    private static void itemsOfBytesAreReadWithTheirSign() {
        LonelyDots x = new LonelyDots();
        x.sheet(0, 0, 1);
        x.sheet(1, 1, 1);
        x.set(0, 0, 127);
        C.due("a byte of 127", x.marks(0, 0, 0, 1), 5);
        x.set(0, 0, 128);
        C.bad("a byte of 128", x.marks(0, 0, 0, 1));
        x.set(0, 0, 200);
        C.bad("a byte of 200", x.marks(0, 0, 0, 1));
        x.set(1, 0, 200);
        C.due("a short of 200", x.marks(0, 1, 0, 1), 5);
        x.set(1, 0, 65536 + 200);
        C.due("a short of 65736", x.marks(0, 1, 0, 1), 5);
        x.set(0, 0, 256);
        C.due("a byte of 256 is column 0", x.order(0, 0, 0, 1), 2);
        x.set(0, 0, 255);
        C.bad("a byte of 255 is no column", x.order(0, 0, 0, 1));
    }

    // "(places: of THE SHELF; all tell the KIND of what a place has then)".
    private static void whatAPlaceHasThen() {
        LonelyDots x = new LonelyDots();
        C.due("an ORDER", Checks.order(x, 0, 0, 1, 2), 1);
        C.due("MARKS in its place", Checks.marks(x, 0, 0, 1, 2), 3);
        C.numbers("MARKS in its place", x, 0, 0, 1, 2);
        C.due("one THING", x.count(1), 1);
        C.due("one row in its place", Checks.order(x, 0, 0), 2);
        C.numbers("one row in its place", x, 0, 0);
        C.due("POWERS in its place", x.powers(0, 17, 3, 0), 2);
        C.due("SUMS in its place", x.sums(0, 5, 2, 2), 2);
        C.due("a ranked one in its place", x.nth(0, 7, 0), 2);
        C.due("one THING still", x.count(1), 1);
        for (int place = 1; place < 10; place++) {
            C.due("TURNED to each place", x.turn(place, place - 1, 1), 2);
        }
        C.due("ten THINGS", x.count(1), 10);
        C.due("the eleventh is BAD", x.turn(10, 9, 1), Checks.BAD);
    }
}
