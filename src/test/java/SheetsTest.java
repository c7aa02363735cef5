/** Promises 1 to 5: a new object, sheet, set, copy, drop. */
public final class SheetsTest {
    private static final Checks C = new Checks();

    public static void main(String[] args) {
        newObject();
        sheet();
        set();
        copy();
        copyFindings();
        drop();
        C.end("SheetsTest");
    }

    private static void newObject() {
        LonelyDots x = new LonelyDots();
        C.due("status of a new object", x.status(), 0);
        C.due("trace of a new object", x.trace(0), Checks.NONE);
        for (int what = 0; what < 6; what++) {
            C.due("count of a new object", x.count(what), 0);
        }
        for (int sheet = 0; sheet < 8; sheet++) {
            C.due("drop(missing)", x.drop(sheet), Checks.NULL);
        }
        for (int place = 0; place < 10; place++) {
            C.due("clear(empty)", x.clear(place), 0);
            C.due("kind(empty)", x.kind(place), Checks.NULL);
        }
    }

    private static void sheet() {
        LonelyDots x = new LonelyDots();
        C.due("sheet 0", x.sheet(0, 0, 0), 0);
        C.due("sheet 7", x.sheet(7, 2, 60), 60);
        C.due("count", x.count(0), 2);
        C.due("first item", x.set(7, 0, 9), 9);
        C.due("last item", x.set(7, 59, 8), 8);
        C.due("beyond", x.set(7, 60, 8), Checks.PLACE);
        C.due("of no items", x.set(0, 0, 8), Checks.PLACE);
        C.bad("sheet -1", x.sheet(-1, 0, 1));
        C.bad("sheet 8", x.sheet(8, 0, 1));
        C.bad("lane -1", x.sheet(0, -1, 1));
        C.bad("lane 3", x.sheet(0, 3, 1));
        C.bad("61 items", x.sheet(0, 0, 61));
        C.bad("most items", x.sheet(0, 0, Integer.MAX_VALUE));
        C.due("status after BAD stays", x.status(), 2);
        C.due("SIZE", x.sheet(7, 0, -1), Checks.SIZE);
        C.due("status of SIZE", x.status(), 4);
        C.due("SIZE, least", x.sheet(7, 0, Integer.MIN_VALUE), Checks.SIZE);
        C.bad("BAD ahead of SIZE: sheet", x.sheet(8, 0, -1));
        C.bad("BAD ahead of SIZE: lane", x.sheet(7, 3, -1));
        C.due("SIZE changes nothing", x.drop(7), 60);
        itemsBeginAtZero();
    }

    private static void itemsBeginAtZero() {
        LonelyDots x = new LonelyDots();
        x.sheet(0, 2, 3);
        x.set(0, 1, 5);
        x.sheet(0, 0, 2);
        x.marks(0, 0, 1, 1);
        C.due("a new sheet has items 0", x.at(0, 0), 0);
        x.set(0, 1, 5);
        x.drop(0);
        x.sheet(0, 0, 2);
        x.marks(0, 0, 1, 1);
        C.due("a sheet behind a drop has items 0", x.at(0, 0), 0);
        C.due("a new sheet has its own length", x.set(0, 2, 1), Checks.PLACE);
        C.due("a new sheet has its own lane", x.set(0, 0, 128), -128);
    }

    private static void set() {
        LonelyDots x = new LonelyDots();
        C.bad("set sheet -1", x.set(-1, 0, 0));
        C.bad("set sheet 8", x.set(8, 0, 0));
        C.due("set NULL", x.set(0, 0, 0), Checks.NULL);
        C.due("set NULL ahead of PLACE", x.set(0, -1, 0), Checks.NULL);
        x.sheet(0, 0, 3);
        x.sheet(1, 1, 3);
        x.sheet(2, 2, 3);
        C.due("byte 127", x.set(0, 0, 127), 127);
        C.due("byte 128", x.set(0, 0, 128), -128);
        C.due("byte 255", x.set(0, 0, 255), -1);
        C.due("byte 256", x.set(0, 0, 256), 0);
        C.due("byte -129", x.set(0, 0, -129), 127);
        C.due("short 32767", x.set(1, 0, 32767), 32767);
        C.due("short 32768", x.set(1, 0, 32768), -32768);
        C.due("short 65537", x.set(1, 0, 65537), 1);
        C.due("short -32769", x.set(1, 0, -32769), 32767);
        C.due("int greatest", x.set(2, 0, Integer.MAX_VALUE), Integer.MAX_VALUE);
        C.due("int least", x.set(2, 0, Integer.MIN_VALUE), Integer.MIN_VALUE);
        C.due("int like BAD", x.set(2, 0, Checks.BAD), Checks.BAD);
        C.due("PLACE -1", x.set(0, -1, 0), Checks.PLACE);
        C.due("status of PLACE", x.status(), 2);
        C.due("PLACE 3", x.set(0, 3, 0), Checks.PLACE);
        C.due("PLACE least", x.set(0, Integer.MIN_VALUE, 0), Checks.PLACE);
        C.due("PLACE greatest", x.set(0, Integer.MAX_VALUE, 0), Checks.PLACE);
        C.due("last place", x.set(0, 2, 4), 4);
        C.due("status is 0 again", x.status(), 0);
    }

    private static void copy() {
        LonelyDots x = new LonelyDots();
        Checks.write(x, 0, 1, 2, 3, 4, 5);
        Checks.write(x, 1, 10, 20, 30, 40, 50);
        C.due("copy between sheets", x.copy(0, 1, 1, 2, 2), 2);
        items(x, 1, 10, 20, 2, 3, 50);
        items(x, 0, 1, 2, 3, 4, 5);
        C.due("copy up over itself", x.copy(0, 0, 0, 1, 4), 4);
        items(x, 0, 1, 1, 2, 3, 4);
        C.due("copy down over itself", x.copy(0, 1, 0, 0, 4), 4);
        items(x, 0, 1, 2, 3, 4, 4);
        C.due("copy nothing at the ends", x.copy(0, 5, 1, 5, 0), 0);
        C.due("copy all", x.copy(0, 0, 1, 0, 5), 5);
        items(x, 1, 1, 2, 3, 4, 4);
    }

    // Marks show one item of a SHEET at a time, as it is.
    private static void items(LonelyDots x, int sheet, int... want) {
        for (int i = 0; i < want.length; i++) {
            x.marks(9, sheet, i, 1);
            C.due("item " + i, x.at(9, 0), want[i]);
        }
    }

    private static void copyFindings() {
        LonelyDots x = new LonelyDots();
        C.bad("copy a -1", x.copy(-1, 0, 0, 0, 0));
        C.bad("copy a 8", x.copy(8, 0, 0, 0, 0));
        C.bad("copy b -1", x.copy(0, 0, -1, 0, 0));
        C.bad("copy b 8", x.copy(0, 0, 8, 0, 0));
        C.due("copy NULL both", x.copy(0, 0, 1, 0, 0), Checks.NULL);
        x.sheet(0, 0, 5);
        C.due("copy NULL b", x.copy(0, -1, 1, 0, 0), Checks.NULL);
        C.due("copy NULL a", x.copy(1, 0, 0, 0, -1), Checks.NULL);
        x.sheet(1, 1, 5);
        C.due("copy STORE", x.copy(0, 0, 1, 0, 1), Checks.STORE);
        C.due("status of STORE", x.status(), 5);
        C.due("copy STORE of nothing", x.copy(0, 0, 1, 0, 0), Checks.STORE);
        C.due("copy STORE ahead of PLACE", x.copy(0, -1, 1, 9, -1), Checks.STORE);
        x.sheet(1, 0, 3);
        C.due("copy i below", x.copy(0, -1, 1, 0, 1), Checks.PLACE);
        C.due("copy j below", x.copy(0, 0, 1, -1, 1), Checks.PLACE);
        C.due("copy n below", x.copy(0, 0, 1, 0, -1), Checks.PLACE);
        C.due("copy beyond a", x.copy(0, 4, 1, 0, 2), Checks.PLACE);
        C.due("copy beyond b", x.copy(0, 0, 1, 2, 2), Checks.PLACE);
        C.due("copy nothing beyond a", x.copy(0, 6, 1, 0, 0), Checks.PLACE);
        C.due("copy nothing beyond b", x.copy(0, 0, 1, 4, 0), Checks.PLACE);
        C.due("copy i wraps", x.copy(0, Integer.MAX_VALUE, 1, 0, 1), Checks.PLACE);
        C.due("copy j wraps", x.copy(0, 0, 1, Integer.MAX_VALUE, 1), Checks.PLACE);
        C.due("copy n wraps", x.copy(0, 1, 1, 1, Integer.MAX_VALUE), Checks.PLACE);
        C.due("copy least n", x.copy(0, 1, 1, 1, Integer.MIN_VALUE), Checks.PLACE);
        C.due("status of PLACE", x.status(), 2);
    }

    private static void drop() {
        LonelyDots x = new LonelyDots();
        C.bad("drop -1", x.drop(-1));
        C.bad("drop 8", x.drop(8));
        C.due("drop missing", x.drop(3), Checks.NULL);
        C.due("status of NULL", x.status(), 1);
        x.sheet(3, 1, 17);
        C.due("drop", x.drop(3), 17);
        C.due("status", x.status(), 0);
        C.due("count", x.count(0), 0);
        C.due("set dropped", x.set(3, 0, 0), Checks.NULL);
        C.due("drop twice", x.drop(3), Checks.NULL);
        x.sheet(3, 1, 0);
        C.due("drop of no items", x.drop(3), 0);
    }
}
