/**
 * An object with something of everything, and all that can be seen of such an object: by this a test knows that a
 * call has changed nothing. Making and seeing a scene takes less than 300 calls, so the object is not used up.
 */
final class Scene {
    /** SHEETS that are missing in the scene, and the one that has no ITEMS. */
    static final int[] MISSING = {4, 5, 6};
    static final int NO_ITEMS = 2;
    /** SHEET 0: 20 bytes, 0 to 15 at first. SHEET 1: 16 shorts, which are neither an ORDER nor MARKS. */
    static final int BYTES = 0;
    static final int BYTES_LENGTH = 20;
    static final int SHORTS = 1;
    /** SHEET 7: two bytes. */
    static final int TWO_BYTES = 7;

    /** Places of THE SHELF. */
    static final int EMPTY = 0, LINE = 1, LONELY = 2, MARKS = 3, RULER = 4, PERFECT = 5, SIXTEEN_ROWS = 6, ONE_ROW = 7;
    static final int EMPTY_TOO = 8, ONE_MARK = 9;

    /** A call on an object. */
    interface Call {
        int on(LonelyDots x);
    }

    private Scene() {
    }

    /** The scene, its status being the number of one FINDING, or 0. */
    static LonelyDots made(int status) {
        LonelyDots x = new LonelyDots();
        layBytes(x);
        layOthers(x);
        x.order(LINE, BYTES, 0, 3);
        x.nth(LONELY, 4, 0);
        x.marks(MARKS, BYTES, 0, 4);
        x.marks(RULER, BYTES, 15, 2);
        x.marks(PERFECT, BYTES, 3, 2);
        x.powers(SIXTEEN_ROWS, 17, 3, 0);
        x.order(ONE_ROW, BYTES, 0, 1);
        x.marks(ONE_MARK, BYTES, 19, 1);
        x.ask(PERFECT, 0);
        find(x, status);
        return x;
    }

    private static void layBytes(LonelyDots x) {
        x.sheet(BYTES, 0, BYTES_LENGTH);
        for (int i = 0; i < 16; i++) {
            x.set(BYTES, i, i);
        }
        x.set(BYTES, 16, 100);
        x.set(BYTES, 17, 50);
        x.set(BYTES, 18, -1);
        x.set(BYTES, 19, 127);
    }

    private static void layOthers(LonelyDots x) {
        x.sheet(SHORTS, 1, 16);
        x.set(SHORTS, 0, 300);
        for (int i = 1; i < 16; i++) {
            x.set(SHORTS, i, 7);
        }
        x.sheet(NO_ITEMS, 2, 0);
        x.sheet(3, 2, 3);
        x.set(3, 0, -5);
        x.set(3, 1, 200);
        x.set(3, 2, 201);
        x.sheet(TWO_BYTES, 0, 2);
        x.set(TWO_BYTES, 0, 9);
        x.set(TWO_BYTES, 1, 8);
    }

    // A FINDING changes nothing but the status, so it brings about the status that is wanted.
    private static void find(LonelyDots x, int status) {
        switch (status) {
            case 1 -> x.kind(EMPTY);
            case 2 -> x.set(BYTES, -1, 0);
            case 3 -> x.as(LINE, 3);
            case 4 -> x.sheet(BYTES, 0, -1);
            case 5 -> x.copy(BYTES, 0, SHORTS, 0, 0);
            default -> x.kind(LINE);
        }
    }

    /** THE TRACE, number by number. */
    static String trace(LonelyDots x) {
        StringBuilder seen = new StringBuilder("trace");
        for (int i = -1; i <= 16; i++) {
            seen.append(' ').append(x.trace(i));
        }
        return seen.toString();
    }

    /** All but the status and THE TRACE. To see the ITEMS the object is written to: it is of no use afterwards. */
    static String rest(LonelyDots x) {
        StringBuilder seen = new StringBuilder("counts");
        for (int what = 0; what < 6; what++) {
            seen.append(' ').append(x.count(what));
        }
        for (int place = 0; place < 10; place++) {
            seen.append("\nplace ").append(place).append(':');
            seeThing(seen, x, place);
        }
        for (int sheet = 0; sheet < 8; sheet++) {
            seen.append("\nsheet ").append(sheet).append(':');
            seeItems(seen, x, sheet);
            seeLane(seen, x, sheet);
        }
        return seen.toString();
    }

    private static void seeThing(StringBuilder seen, LonelyDots x, int place) {
        seen.append(" kind ").append(x.kind(place)).append(" numbers");
        int n = x.as(place, 0);
        for (int k = 0; k < n; k++) {
            seen.append(' ').append(x.at(place, k));
        }
    }

    // One mark shows one ITEM; those that are no mark show as BAD.
    private static void seeItems(StringBuilder seen, LonelyDots x, int sheet) {
        for (int i = 0; i <= 60; i++) {
            int kind = x.marks(9, sheet, i, 1);
            if (kind == Checks.NULL || kind == Checks.PLACE) {
                seen.append(" end ").append(kind);
                return;
            }
            seen.append(' ').append(kind == Checks.BAD ? Checks.BAD : x.at(9, 0));
        }
    }

    // SHEET 0 always has ITEMS in a scene; when it has been seen, it is laid anew beside the others.
    private static void seeLane(StringBuilder seen, LonelyDots x, int sheet) {
        if (sheet == 0) {
            seen.append(" lane shows in ").append(x.set(0, 0, 98304));
            return;
        }
        for (int lane = 0; lane < 3; lane++) {
            x.sheet(0, lane, 0);
            seen.append(lane == 0 ? " lanes " : " ").append(x.copy(sheet, 0, 0, 0, 0));
        }
    }
}
